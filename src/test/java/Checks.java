/** Counts and prints every answer that is not the one that is due. */
final class Checks {
    /** What is no exporter: the two beside 0 and 1, and those farthest from them. */
    static final int[] NO_EXPORTER = {-1, 2, Integer.MIN_VALUE, Integer.MAX_VALUE};

    private static final String NOTHING = "no exception";

    private static int done;
    private static int wrong;
    private static int sentences;
    private static String sentence = "";

    private Checks() {
    }

    interface Call {
        long answer();
    }

    interface Deed {
        void run();
    }

    /** The sentence of the document that the checks which follow are for. */
    static void sentence(String words) {
        sentences++;
        sentence = "[" + words + "] ";
    }

    static void due(String what, long want, long got) {
        due(what, Long.toString(want), Long.toString(got));
    }

    static void due(String what, boolean want, boolean got) {
        due(what, Boolean.toString(want), Boolean.toString(got));
    }

    static void due(String what, String want, String got) {
        done++;
        if (!want.equals(got)) {
            wrong++;
            System.out.println(sentence + what + ": answered " + got + ", due is " + want);
        }
    }

    /** Of a call that is not to throw: an exception counts as a wrong answer, and the test goes on. */
    static void answers(String what, long want, Call call) {
        due(what, Long.toString(want), answerOrException(call));
    }

    static String answerOrException(Call call) {
        long[] got = new long[1];
        String thrown = outcome(() -> got[0] = call.answer());
        return thrown.equals(NOTHING) ? Long.toString(got[0]) : thrown;
    }

    static void argument(String what, Deed deed) {
        due(what, "IllegalArgumentException", outcome(deed));
    }

    static void state(String what, Deed deed) {
        due(what, "IllegalStateException", outcome(deed));
    }

    static void index(String what, Deed deed) {
        due(what, "IndexOutOfBoundsException", outcome(deed));
    }

    static void unsupported(String what, Deed deed) {
        due(what, "UnsupportedOperationException", outcome(deed));
    }

    private static String outcome(Deed deed) {
        try {
            deed.run();
            return NOTHING;
        } catch (RuntimeException e) {
            String name = e.getClass().getSimpleName();
            return isThrownByTheProgram(e) ? name : name + " that no throw statement threw";
        }
    }

    /**
     * The language's rule 7: a list or an array that refuses an index by itself is a fault, whatever it throws. The
     * model beside the program is held to it as well.
     */
    private static boolean isThrownByTheProgram(RuntimeException e) {
        StackTraceElement[] trace = e.getStackTrace();
        return trace.length > 0 && trace[0].getClassName().matches("(FlowShelf|Model)(\\$.*)?");
    }

    static String bytes(FlowShelf x, int report) {
        StringBuilder text = new StringBuilder();
        for (int i = 0; i < x.size(report); i++) {
            text.append(i == 0 ? "" : " ").append(x.byteOf(report, i));
        }
        return text.toString();
    }

    static String counts(FlowShelf x, int exporter) {
        StringBuilder text = new StringBuilder();
        for (int which = 0; which < 10; which++) {
            text.append(which == 0 ? "" : " ").append(x.count(exporter, which));
        }
        return text.toString();
    }

    static String flow(FlowShelf x, int exporter, int i) {
        StringBuilder text = new StringBuilder();
        for (int f = 0; f < 8; f++) {
            text.append(f == 0 ? "" : " ").append(x.ended(exporter, i, f));
        }
        return text.toString();
    }

    static String row(FlowShelf x, int row) {
        StringBuilder text = new StringBuilder();
        for (int f = 0; f < 9; f++) {
            text.append(f == 0 ? "" : " ").append(x.row(row, f));
        }
        return text.toString();
    }

    /** Overwrites the head of a report, from byte 0 on. */
    static void pokeAll(FlowShelf x, int report, int... bytes) {
        for (int i = 0; i < bytes.length; i++) {
            x.poke(report, i, bytes[i]);
        }
    }

    /** Drafts and seals a template from pairs of a field and its length. */
    static void template(FlowShelf x, int exporter, int number, int... pairs) {
        for (int i = 0; i < pairs.length; i += 2) {
            x.field(exporter, number, pairs[i], pairs[i + 1]);
        }
        x.seal(exporter, number);
    }

    /** So many flows of one packet that end at once. */
    static void finished(FlowShelf x, int exporter, int flows) {
        for (int i = 0; i < flows; i++) {
            x.packet(exporter, i, 0, 0, 0, true);
        }
    }

    static void close() {
        String of = sentences == 0 ? "" : " for " + sentences + " sentences";
        System.out.println(wrong == 0 ? done + " answers are as due" + of : wrong + " of " + done + " are not as due");
        if (wrong != 0 || done == 0) {
            System.exit(1);
        }
    }
}
