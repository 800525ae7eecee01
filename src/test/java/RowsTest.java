/** Promises 18 to 22: rows, row, total, other, count. */
public final class RowsTest {
    public static void main(String[] args) {
        rowsHaveValues();
        totalsAddUp();
        totalsLeaveOutWhatIsNotThere();
        pairsAreTheNearest();
        theEarlierChoosesFirst();
        tiesGoToTheLesserRow();
        pairsAreOfOneExporter();
        aRowIsNotItsOwnOther();
        pairsChangeWithNewRows();
        onlyRowsWithTheFieldsArePaired();
        aRowWithoutThemTakesNoOther();
        beginsMayBeFarApart();
        countsOfTheExporter();
        lostRecordsAreGaps();
        Checks.close();
    }

    /** Hears one row of exporter, source, target, service, when it began: by a template of four bytes each. */
    private static final class Talk {
        final FlowShelf x = new FlowShelf();
        final int template;
        final int records;
        int next;

        Talk() {
            Checks.template(x, 0, 0, 0, 4, 1, 4, 2, 4, 5, 4);
            template = x.announce(0, 0);
            x.hear(template);
            x.poke(template, 0, 1);
            x.hear(template);
            Checks.finished(x, 0, 1);
            records = x.report(0);
        }

        void say(int exporter, int source, int target, int service, int began) {
            x.poke(records, 0, exporter);
            x.poke(records, 6, next);
            next++;
            int[] values = {source, target, service, began};
            for (int i = 0; i < 4; i++) {
                for (int k = 0; k < 4; k++) {
                    x.poke(records, 7 + 4 * i + k, values[i] >>> 8 * (3 - k) & 255);
                }
            }
            Checks.due("a row came", 1, x.hear(records));
        }

        String pairs() {
            StringBuilder text = new StringBuilder();
            for (int i = 0; i < x.rows(); i++) {
                text.append(i == 0 ? "" : " ").append(x.other(i));
            }
            return text.toString();
        }
    }

    private static FlowShelf threeRows() {
        FlowShelf x = new FlowShelf();
        Checks.template(x, 1, 0, 0, 1, 3, 3, 4, 2, 7, 1);
        x.hear(x.announce(1, 0));
        x.packet(1, 4, 0, 0, 10, false);
        x.packet(1, 4, 0, 0, 20, true);
        x.packet(1, 5, 0, 0, 40, true);
        x.packet(1, 4, 0, 0, 80, false);
        x.flush(1);
        x.hear(x.report(1));
        return x;
    }

    private static void rowsHaveValues() {
        FlowShelf x = threeRows();
        Checks.due("rows", 3, x.rows());
        Checks.due("row 0", "4 -1 -1 30 2 -1 -1 3 1", Checks.row(x, 0));
        Checks.due("row 1", "5 -1 -1 40 1 -1 -1 3 1", Checks.row(x, 1));
        Checks.due("row 2", "4 -1 -1 80 1 -1 -1 5 1", Checks.row(x, 2));
    }

    private static void totalsAddUp() {
        FlowShelf x = threeRows();
        Checks.due("bytes of source 4", 110, x.total(1, 0, 4, 3));
        Checks.due("bytes of source 5", 40, x.total(1, 0, 5, 3));
        Checks.due("bytes of source 6", 0, x.total(1, 0, 6, 3));
        Checks.due("packets of reason 3", 3, x.total(1, 7, 3, 4));
        Checks.due("the field itself", 8, x.total(1, 0, 4, 0));
        Checks.due("of the other exporter", 0, x.total(0, 0, 4, 3));
        Checks.due("a long value", 0, x.total(1, 0, 4 + (1L << 32), 3));
    }

    private static void totalsLeaveOutWhatIsNotThere() {
        FlowShelf x = threeRows();
        Checks.due("no row has the field that is added", 0, x.total(1, 0, 4, 1));
        Checks.due("no row has the field that is asked", 0, x.total(1, 1, 0, 3));
        Checks.due("-1 is no value", 0, x.total(1, 1, -1, 3));
        Talk talk = new Talk();
        talk.say(0, -1, -1, 7, -1);
        talk.say(0, -1, -1, 7, -1);
        Checks.due("large values", 2 * 4294967295L, talk.x.total(0, 2, 7, 0));
        Checks.due("by a large value", 14, talk.x.total(0, 5, 4294967295L, 2));
        Checks.due("which is not -1", 0, talk.x.total(0, 5, -1, 2));
    }

    private static void pairsAreTheNearest() {
        Talk talk = new Talk();
        talk.say(0, 1, 2, 3, 10);
        talk.say(0, 2, 1, 3, 30);
        talk.say(0, 2, 1, 3, 15);
        talk.say(0, 2, 1, 4, 10);
        talk.say(0, 1, 2, 3, 10);
        talk.say(0, 1, 3, 3, 10);
        talk.say(0, 3, 2, 3, 10);
        Checks.due("pairs", "2 4 0 -1 1 -1 -1", talk.pairs());
    }

    private static void theEarlierChoosesFirst() {
        Talk talk = new Talk();
        talk.say(0, 2, 1, 3, 20);
        talk.say(0, 1, 2, 3, 25);
        talk.say(0, 1, 2, 3, 10);
        Checks.due("row 2 began first and takes row 0", "2 -1 0", talk.pairs());
        talk.say(0, 1, 2, 3, 9);
        talk.say(0, 1, 2, 3, 11);
        Checks.due("row 3 began before that", "3 -1 -1 0 -1", talk.pairs());
        Talk late = new Talk();
        late.say(0, 1, 2, 3, 10);
        late.say(0, 2, 1, 3, 100);
        late.say(0, 1, 2, 3, 99);
        Checks.due("an earlier row's choice stands", "1 0 -1", late.pairs());
    }

    private static void tiesGoToTheLesserRow() {
        Talk talk = new Talk();
        talk.say(0, 2, 1, 3, 5);
        talk.say(0, 2, 1, 3, 5);
        talk.say(0, 1, 2, 3, 9);
        Checks.due("with the same begin the lesser row is first", "2 -1 0", talk.pairs());
        Talk near = new Talk();
        near.say(0, 1, 2, 3, 1);
        near.say(0, 2, 1, 3, 7);
        near.say(0, 2, 1, 3, 7);
        Checks.due("of two that are as near the lesser", "1 0 -1", near.pairs());
        Talk loop = new Talk();
        loop.say(0, 4, 4, 3, 12);
        loop.say(0, 4, 4, 3, 10);
        loop.say(0, 4, 4, 3, 11);
        loop.say(0, 4, 4, 3, 9);
        Checks.due("one direction is its own other", "2 3 0 1", loop.pairs());
    }

    private static void pairsAreOfOneExporter() {
        Talk talk = new Talk();
        talk.say(0, 1, 2, 3, 10);
        talk.say(1, 2, 1, 3, 10);
        Checks.due("two exporters", "-1 -1", talk.pairs());
        talk.say(1, 1, 2, 3, 90);
        Checks.due("one exporter", "-1 2 1", talk.pairs());
    }

    private static void aRowIsNotItsOwnOther() {
        Talk talk = new Talk();
        talk.say(0, 4, 4, 3, 10);
        Checks.due("alone", "-1", talk.pairs());
    }

    private static void pairsChangeWithNewRows() {
        Talk talk = new Talk();
        talk.say(0, 1, 2, 3, 10);
        talk.say(0, 2, 1, 3, 30);
        Checks.due("two", "1 0", talk.pairs());
        talk.say(0, 2, 1, 3, 11);
        Checks.due("three", "2 -1 0", talk.pairs());
        talk.say(0, 1, 2, 3, 0);
        Checks.due("four", "1 0 3 2", talk.pairs());
    }

    private static void onlyRowsWithTheFieldsArePaired() {
        for (int missing : new int[] {0, 1, 2, 5}) {
            FlowShelf x = new FlowShelf();
            for (int f : new int[] {0, 1, 2, 5}) {
                if (f != missing) {
                    x.field(0, 0, f, 0);
                }
            }
            x.field(0, 0, 6, 2);
            x.seal(0, 0);
            x.hear(x.announce(0, 0));
            x.packet(0, 4, 4, 4, 4, true);
            x.packet(0, 4, 4, 4, 4, true);
            x.hear(x.report(0));
            Checks.due("without field " + missing, -1, x.other(0));
            Checks.due("without field " + missing, -1, x.other(1));
        }
    }

    private static void aRowWithoutThemTakesNoOther() {
        for (int missing : new int[] {0, 1, 2, 5}) {
            FlowShelf x = new FlowShelf();
            for (int number = 0; number < 2; number++) {
                for (int f : new int[] {0, 1, 2, 5}) {
                    if (f != missing || number == 1) {
                        x.field(0, number, f, 0);
                    }
                }
                x.seal(0, number);
                x.hear(x.announce(0, number));
                x.packet(0, 4, 4, 4, 4, true);
                x.hear(x.report(0));
            }
            x.packet(0, 4, 4, 4, 4, true);
            Checks.due("without field " + missing, -1, x.other(0));
            Checks.due("with all", -1, x.other(1));
            x.hear(x.report(0));
            Checks.due("two with all", 2, x.other(1));
            Checks.due("still without field " + missing, -1, x.other(0));
        }
    }

    private static void beginsMayBeFarApart() {
        Talk talk = new Talk();
        talk.say(0, 1, 2, 3, 0);
        talk.say(0, 2, 1, 3, -1);
        talk.say(0, 2, 1, 3, Integer.MAX_VALUE);
        talk.say(0, -1, 300, 3, 1);
        talk.say(0, 300, -1, 3, 1);
        Checks.due("unsigned", "2 -1 0 4 3", talk.pairs());
    }

    private static void countsOfTheExporter() {
        FlowShelf x = new FlowShelf();
        x.restart(1);
        x.restart(1);
        x.tick(1, 42);
        Checks.template(x, 1, 0, 0, 1);
        Checks.finished(x, 1, 4);
        x.report(1);
        Checks.finished(x, 1, 3);
        x.packet(1, 1, 1, 1, 1, false);
        x.packet(1, 2, 1, 1, 1, false);
        Checks.due("counts", "42 2 2 3 4 0 0 0 0 0", Checks.counts(x, 1));
        Checks.due("the other's", "0 0 0 0 0 0 0 0 0 0", Checks.counts(x, 0));
        x.hear(0);
        x.hear(x.tell(1));
        Checks.due("counts", "42 2 2 3 4 0 1 0 0 1", Checks.counts(x, 1));
        x.restart(1);
        Checks.due("the collector's stay", "42 3 0 0 0 0 1 0 0 1", Checks.counts(x, 1));
    }

    private static void lostRecordsAreGaps() {
        FlowShelf x = new FlowShelf();
        Checks.template(x, 0, 0, 0, 1);
        Checks.finished(x, 0, 2);
        x.report(0);
        heard(x, 0, 0, 40, 0);
        heard(x, 0, 0, 50, 8);
        heard(x, 0, 0, 45, 6);
        heard(x, 0, 0, 98, 6 + 46);
        heard(x, 0, 0, 0, 6 + 46 + 38);
        heard(x, 0, 5, 60, 90);
        heard(x, 0, 5, 0, 90 + 58);
        heard(x, 0, 3, 30, 148);
        heard(x, 1, 0, 70, 0);
        heard(x, 1, 0, 73, 1);
        x.poke(0, 5, 1);
        heard(x, 1, 1, 0, 1);
        heard(x, 1, 1, 2, 2);
        heard(x, 1, 1, 1, 1);
        Checks.due("of the first one", 148, x.count(0, 5));
        Checks.due("dropped ones are not lost", 8, x.count(0, 7));
    }

    private static void heard(FlowShelf x, int exporter, int epoch, int place, int lost) {
        x.poke(0, 0, exporter);
        x.poke(0, 1, epoch);
        x.poke(0, 6, place);
        x.hear(0);
        Checks.due("lost with place " + place + " of epoch " + epoch, lost, x.count(exporter, 5));
    }
}
