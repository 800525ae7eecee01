import java.util.Random;
import java.util.TreeMap;

/** Long runs of calls, most of them sensible, some wrong, on the program and on the model beside it. */
public final class ModelTest {
    private static final int RUNS = 8000;
    /** Beyond these an object's answers are free, so no run has more. */
    private static final int CALLS = 512;
    private static final int STEPS = 400;

    /** One letter a chance: of each run, some of these kinds of calls are more usual than others. */
    private static final String USUAL = "pppppppppppptttfseeffffffSSSwRaaarrrTbbkkkkkkkkkkkkhhhhhhhhhhhhhhhhoooooccttvv";

    private static final TreeMap<String, Integer> SEEN = new TreeMap<>();

    private final Random random;
    private final FlowShelf program = new FlowShelf();
    private final Model model = new Model();
    private final int keys;
    private final int ticks;
    private final String chances;
    private final StringBuilder told = new StringBuilder();
    private int calls;
    private int made;
    private boolean differs;

    private ModelTest(long seed) {
        random = new Random(seed);
        keys = 2 + random.nextInt(4);
        ticks = 1 + random.nextInt(20);
        StringBuilder text = new StringBuilder(USUAL);
        for (int i = 0; i < 3; i++) {
            text.append(String.valueOf(USUAL.charAt(random.nextInt(USUAL.length()))).repeat(20));
        }
        chances = text.toString();
    }

    public static void main(String[] args) {
        for (int run = 0; run < RUNS; run++) {
            ModelTest each = new ModelTest(run);
            if (run % 3 != 0) {
                each.open();
            }
            while (each.calls < STEPS && !each.differs) {
                each.step();
            }
            each.lookAround();
            Checks.due("run " + run + each.differences(), false, each.differs);
            if (each.differs) {
                break;
            }
        }
        // What the runs must have met to be worth something.
        for (String each : new String[] {"hear UnsupportedOperationException", "hear IllegalArgumentException",
            "hear IndexOutOfBoundsException", "packet IllegalStateException", "report IllegalStateException",
            "tell IllegalStateException", "announce IllegalStateException", "restart IllegalStateException"}) {
            Checks.due("some run met: " + each, true, SEEN.getOrDefault(each, 0) > 20);
        }
        if (args.length > 0) {
            SEEN.forEach((call, times) -> System.out.println(call + ": " + times));
        }
        Checks.close();
    }

    private String differences() {
        return differs ? " differs:\n" + told : "";
    }

    /** Mostly below the bound, now and then an edge or far outside. */
    private int number(int bound) {
        switch (random.nextInt(80)) {
            case 0:
                return -1;
            case 1:
                return bound;
            case 2:
                return random.nextInt();
            default:
                return bound <= 0 ? 0 : random.nextInt(bound);
        }
    }

    private int exporter() {
        return random.nextInt(150) == 0 ? random.nextInt(5) - 2 : random.nextInt(10) < 7 ? 0 : 1;
    }

    /** A template, some ended flows and the reports of both, so that later calls find something to work on. */
    private void open() {
        int e = random.nextInt(2);
        for (int f : random.nextBoolean() ? new int[] {0, 1, 2, 5} : new int[] {random.nextInt(8)}) {
            int length = random.nextBoolean() ? 0 : 3;
            same("field", () -> program.field(e, 0, f, length), () -> model.field(e, 0, f, length), e, 0, f, length);
        }
        same("seal", () -> program.seal(e, 0), () -> model.seal(e, 0), e, 0);
        same("announce", () -> program.announce(e, 0), () -> model.announce(e, 0), e, 0);
        if (random.nextBoolean()) {
            same("hear", () -> program.hear(0), () -> model.hear(0), 0);
        }
        for (int i = 0; i < 20; i++) {
            packet(e);
        }
        same("flush", () -> program.flush(e), () -> model.flush(e), e);
        same("report", () -> program.report(e), () -> model.report(e), e);
    }

    private void step() {
        int e = exporter();
        switch (chances.charAt(random.nextInt(chances.length()))) {
            case 'p':
                packet(e);
                return;
            case 't': {
                int n = random.nextInt(20) == 0 ? number(101) : 1 + random.nextInt(ticks);
                same("tick", () -> program.tick(e, n), () -> model.tick(e, n), e, n);
                return;
            }
            case 'f':
                field(e);
                return;
            case 's': {
                int n = random.nextInt(3) == 0 ? number(11) : 1 + random.nextInt(3);
                same("sampler", done(() -> program.sampler(e, n)), done(() -> model.sampler(e, n)), e, n);
                return;
            }
            case 'e':
                same("flush", () -> program.flush(e), () -> model.flush(e), e);
                return;
            case 'S':
            case 'w':
            case 'a':
                template(e);
                return;
            case 'R':
                if (random.nextInt(4) == 0) {
                    same("restart", () -> program.restart(e), () -> model.restart(e), e);
                }
                return;
            case 'r':
                same("report", () -> program.report(e), () -> model.report(e), e);
                return;
            case 'T':
                same("tell", () -> program.tell(e), () -> model.tell(e), e);
                return;
            case 'k':
                poke();
                return;
            case 'h': {
                int r = number(made);
                same("hear", () -> program.hear(r), () -> model.hear(r), r);
                return;
            }
            default:
                ask(e);
        }
    }

    private int key() {
        return random.nextInt(40) == 0 ? number(256) : random.nextInt(keys);
    }

    private void packet(int e) {
        int s = key();
        int t = key();
        int v = random.nextInt(8) == 0 ? number(256) : 1;
        int b = random.nextInt(3) == 0 ? number(10000) : random.nextInt(300);
        boolean end = random.nextInt(3) == 0;
        same("packet", () -> program.packet(e, s, t, v, b, end) ? 1 : 0, () -> model.packet(e, s, t, v, b, end) ? 1 : 0,
                e, s, t, v, b, end ? 1 : 0);
    }

    private void field(int e) {
        int t = number(3);
        int f = number(8);
        int length = number(5);
        same("field", () -> program.field(e, t, f, length), () -> model.field(e, t, f, length), e, t, f, length);
    }

    private void template(int e) {
        int t = number(3);
        switch (random.nextInt(8)) {
            case 0:
                same("withdraw", done(() -> program.withdraw(e, t)), done(() -> model.withdraw(e, t)), e, t);
                return;
            case 1:
            case 2:
                same("announce", () -> program.announce(e, t), () -> model.announce(e, t), e, t);
                return;
            default:
                same("seal", () -> program.seal(e, t), () -> model.seal(e, t), e, t);
        }
    }

    /** Most pokes leave a report that can be heard: another place, number, revision, epoch or exporter. */
    private void poke() {
        int r = number(made);
        if (random.nextInt(12) == 0) {
            pokeByte(r, number(model.size(r)), number(256));
            return;
        }
        int[] bounds = {2, 4, 3, 3, random.nextBoolean() ? 3 : 40, 9, 100};
        int[] favourites = {6, 6, 6, 6, 4, 4, 3, 1, 0, random.nextInt(7)};
        if (model.size(r) > 4 && model.byteOf(r, 2) == 0) {
            favourites = new int[] {0, 1, 3, 4, 4, 4};
        }
        int i = favourites[random.nextInt(favourites.length)];
        pokeByte(r, i, number(bounds[i]));
        same("hear", () -> program.hear(r), () -> model.hear(r), r);
    }

    private void pokeByte(int r, int i, int v) {
        same("poke", done(() -> program.poke(r, i, v)), done(() -> model.poke(r, i, v)), r, i, v);
    }

    private void ask(int e) {
        int row = number(model.rows());
        int f = number(9);
        int what = number(8);
        int value = number(random.nextBoolean() ? 5 : 300);
        int which = number(10);
        int i = number(20);
        same("row", () -> program.row(row, f), () -> model.row(row, f), row, f);
        same("total", () -> program.total(e, f, value, what), () -> model.total(e, f, value, what), e, f, value, what);
        same("other", () -> program.other(row), () -> model.other(row), row);
        same("count", () -> program.count(e, which), () -> model.count(e, which), e, which);
        same("ended", () -> program.ended(e, i, what), () -> model.ended(e, i, what), e, i, what);
    }

    /** All counts, and then this and that of what the run has made, as long as there are calls left. */
    private void lookAround() {
        for (int k = 0; k < 2 * 10; k++) {
            int e = k / 10;
            int which = k % 10;
            same("count", () -> program.count(e, which), () -> model.count(e, which), e, which);
        }
        while (calls + 6 <= CALLS && !differs) {
            int e = random.nextInt(2);
            int i = number(model.count(e, 3));
            int f = number(8);
            int r = number(made);
            int at = number(model.size(r));
            int row = number(model.rows());
            same("ended", () -> program.ended(e, i, f), () -> model.ended(e, i, f), e, i, f);
            same("size", () -> program.size(r), () -> model.size(r), r);
            same("byteOf", () -> program.byteOf(r, at), () -> model.byteOf(r, at), r, at);
            same("row", () -> program.row(row, f), () -> model.row(row, f), row, f);
            same("other", () -> program.other(row), () -> model.other(row), row);
        }
        same("rows", program::rows, model::rows);
    }

    private static Checks.Call done(Checks.Deed deed) {
        return () -> {
            deed.run();
            return 0;
        };
    }

    private void same(String call, Checks.Call ours, Checks.Call due, int... with) {
        if (differs) {
            return;
        }
        calls++;
        String got = Checks.answerOrException(ours);
        String want = Checks.answerOrException(due);
        SEEN.merge(call + (got.endsWith("Exception") ? " " + got : ""), 1, Integer::sum);
        while (model.size(made) >= 0) {
            made++;
        }
        told.append(call).append(' ').append(java.util.Arrays.toString(with)).append(" -> ").append(got).append('\n');
        if (!got.equals(want)) {
            told.append("due is ").append(want).append('\n');
            differs = true;
        }
    }
}
