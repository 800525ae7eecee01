/** Promises 18 to 22 at their edges: a test of its own for each sentence that names one. */
public final class RowsEdgesTest {
    private static final int[] NO_FIELD = {-1, 8, Integer.MIN_VALUE, Integer.MAX_VALUE};
    private static final long GREATEST = 4294967295L;

    public static void main(String[] args) {
        rowsAreNoneToEighty();
        rowNeedsARow();
        rowNeedsAField();
        aFieldThatIsNotThereIsMinusOne();
        eightIsTheExporter();
        totalNeedsAnExporter();
        totalNeedsAFieldToAsk();
        totalNeedsAFieldToAdd();
        totalOfNoRowIsZero();
        totalTakesRowsThatHaveBoth();
        totalsMayBeLarge();
        otherNeedsARow();
        otherIsMinusOneIfNoneIs();
        onlyRowsWithFourFieldsArePaired();
        theEarlierRowChoosesFirst();
        withTheSameBeginTheLesserRowChoosesFirst();
        aPairedRowIsNotPairedAgain();
        anotherRowOfTheSameExporter();
        theOtherWayRoundAndTheSameService();
        theNearestIsTaken();
        ofSeveralNearestTheLeastRow();
        pairsAreOfTheRowsThatAreThere();
        countNeedsAnExporter();
        countNeedsANumber();
        lostNeedsTwoPlaces();
        lostIsBetweenTheLeastAndTheGreatest();
        lostIsOverAllEpochs();
        theCollectorsCountsAreAnExporters();
        theNotedNIsZeroIfNone();
        Checks.close();
    }

    private static void rowsAreNoneToEighty() {
        Checks.sentence("18: How many rows there are (at most 80)");
        Post p = new Post();
        p.hears("template", 0, 0, 0, 0, 0, 1, 1, 0, 1);
        Checks.due("none", 0, p.x.rows());
        int[] twenty = new int[27];
        for (int i = 0; i < 4; i++) {
            System.arraycopy(new int[] {0, 0, 1, 0, 1, 20, 20 * i}, 0, twenty, 0, 7);
            p.hears("20 more", 20, twenty);
            Checks.due("rows", 20 * i + 20, p.x.rows());
        }
        p.tooMuch("one more", 0, 0, 1, 0, 1, 1, 80, 7);
        Checks.due("80 still", 80, p.x.rows());
        Checks.due("row 79 is there", 0, p.x.row(79, 0));
        Checks.due("row 79 has no other", -1, p.x.other(79));
        Checks.index("row 80 is not", () -> p.x.row(80, 0));
        Checks.index("other of row 80", () -> p.x.other(80));
    }

    /** Rows 0 and 1 of exporter 0, with fields 0 and 3: 7 and 70, 8 and 80; row 2 of exporter 1 with field 1 alone. */
    private static Post withThreeRows() {
        Post p = new Post();
        p.hears("template of 0", 0, 0, 0, 0, 0, 1, 2, 0, 1, 3, 1);
        p.hears("template of 1", 0, 1, 0, 0, 0, 1, 1, 1, 1);
        p.hears("records of 0", 2, 0, 0, 1, 0, 1, 2, 0, 7, 70, 8, 80);
        p.hears("records of 1", 1, 1, 0, 1, 0, 1, 1, 0, 9);
        return p;
    }

    private static void rowNeedsARow() {
        Checks.sentence("19: there is no such row");
        Post none = new Post();
        Checks.index("row 0 of none", () -> none.x.row(0, 0));
        FlowShelf x = withThreeRows().x;
        Checks.due("the first", 7, x.row(0, 0));
        Checks.due("the last", 9, x.row(2, 1));
        for (int row : new int[] {-1, 3, Integer.MIN_VALUE, Integer.MAX_VALUE}) {
            Checks.index("row " + row, () -> x.row(row, 0));
            Checks.index("row " + row + " and a wrong field", () -> x.row(row, 9));
        }
    }

    private static void rowNeedsAField() {
        Checks.sentence("19: f is not 0 .. 8");
        FlowShelf x = withThreeRows().x;
        for (int f : new int[] {-1, 9, Integer.MIN_VALUE, Integer.MAX_VALUE}) {
            Checks.argument("field " + f, () -> x.row(0, f));
        }
        Checks.due("fields 0 to 8", "7 -1 -1 70 -1 -1 -1 -1 0", Checks.row(x, 0));
    }

    private static void aFieldThatIsNotThereIsMinusOne() {
        Checks.sentence("19: -1 if the row has none");
        for (int f = 0; f < 8; f++) {
            Post p = new Post();
            p.hears("template", 0, 0, 0, 0, 0, 1, 1, f, 4);
            p.hears("0 and the greatest value", 2, 0, 0, 1, 0, 1, 2, 0, 0, 0, 0, 0, 255, 255, 255, 255);
            for (int asked = 0; asked < 8; asked++) {
                Checks.due("field " + asked + " of a row with " + f, asked == f ? 0 : -1, p.x.row(0, asked));
                Checks.due("field " + asked + " of a row with " + f, asked == f ? GREATEST : -1, p.x.row(1, asked));
            }
        }
    }

    private static void eightIsTheExporter() {
        Checks.sentence("19: 8 is the row's exporter");
        FlowShelf x = withThreeRows().x;
        Checks.due("row 0", 0, x.row(0, 8));
        Checks.due("row 1", 0, x.row(1, 8));
        Checks.due("row 2", 1, x.row(2, 8));
    }

    private static void totalNeedsAnExporter() {
        Checks.sentence("20: there is no such exporter");
        FlowShelf x = withThreeRows().x;
        for (int e : Checks.NO_EXPORTER) {
            Checks.argument("total of " + e, () -> x.total(e, 0, 7, 3));
        }
        Checks.due("total of 0", 70, x.total(0, 0, 7, 3));
        Checks.due("total of 1", 9, x.total(1, 1, 9, 1));
    }

    private static void totalNeedsAFieldToAsk() {
        Checks.sentence("20: f is not 0 .. 7");
        FlowShelf x = withEightFields().x;
        for (int f : NO_FIELD) {
            Checks.argument("f " + f, () -> x.total(0, f, 0, 0));
        }
        for (int f = 0; f < 8; f++) {
            Checks.due("f " + f, 10, x.total(0, f, 10 + f, 0));
            Checks.due("f " + f + " of another value", 0, x.total(0, f, 11 + f, 0));
        }
    }

    private static void totalNeedsAFieldToAdd() {
        Checks.sentence("20: what is not 0 .. 7");
        FlowShelf x = withEightFields().x;
        for (int f : NO_FIELD) {
            Checks.argument("what " + f, () -> x.total(0, 0, 10, f));
        }
        for (int f = 0; f < 8; f++) {
            Checks.due("what " + f, 10 + f, x.total(0, 0, 10, f));
        }
    }

    /** One row, with 10 to 17 in fields 0 to 7. */
    private static Post withEightFields() {
        Post p = new Post();
        p.hears("template", 0, 0, 0, 0, 0, 1, 8, 0, 1, 1, 1, 2, 1, 3, 1, 4, 1, 5, 1, 6, 1, 7, 1);
        p.hears("records", 1, 0, 0, 1, 0, 1, 1, 0, 10, 11, 12, 13, 14, 15, 16, 17);
        return p;
    }

    private static void totalOfNoRowIsZero() {
        Checks.sentence("20: The values together, of all rows (of none)");
        Checks.due("no row at all", 0, new FlowShelf().total(0, 0, 0, 0));
        FlowShelf x = withThreeRows().x;
        Checks.due("no row with the value", 0, x.total(0, 0, 6, 3));
        Checks.due("no row of the exporter with the value", 0, x.total(1, 0, 7, 3));
        Checks.due("a value of more than an int", 0, x.total(0, 0, 7 + (1L << 32), 3));
        Checks.due("the least value", 0, x.total(0, 0, Long.MIN_VALUE, 3));
        Checks.due("the greatest value", 0, x.total(0, 0, Long.MAX_VALUE, 3));
    }

    private static void totalTakesRowsThatHaveBoth() {
        Checks.sentence("20: of all rows that have that and have the value in field f");
        Post p = withThreeRows();
        p.hears("a template with field 0 alone", 0, 0, 0, 0, 1, 1, 1, 0, 1);
        p.hears("a row without field 3", 1, 0, 0, 1, 1, 1, 1, 10, 7);
        p.hears("a template with field 3 alone", 0, 0, 0, 0, 2, 1, 1, 3, 1);
        p.hears("a row without field 0", 1, 0, 0, 1, 2, 1, 1, 20, 70);
        Checks.due("without field 3 it adds nothing", 70, p.x.total(0, 0, 7, 3));
        Checks.due("without field 0 it has no value there", 0, p.x.total(0, 0, -1, 3));
        Checks.due("the asked field itself", 14, p.x.total(0, 0, 7, 0));
        Checks.due("by field 3", 7, p.x.total(0, 3, 70, 0));
        Checks.due("by field 3, itself", 140, p.x.total(0, 3, 70, 3));
    }

    private static void totalsMayBeLarge() {
        Checks.sentence("20: The values of field what, together");
        Post p = new Post();
        p.hears("template", 0, 0, 0, 0, 0, 1, 1, 3, 4);
        int[] four = {0, 0, 1, 0, 1, 4, 0, 255, 255, 255, 255, 255, 255, 255, 255, 255, 255, 255, 255, 255, 255, 255, 255};
        for (int i = 0; i < 20; i++) {
            four[6] = 4 * i;
            p.hears("four rows", 4, four);
        }
        Checks.due("of 80 rows", 80 * GREATEST, p.x.total(0, 3, GREATEST, 3));
        Checks.due("not by -1", 0, p.x.total(0, 3, -1, 3));
    }

    private static void otherNeedsARow() {
        Checks.sentence("21: there is no such row");
        Checks.index("row 0 of none", () -> new FlowShelf().other(0));
        FlowShelf x = withThreeRows().x;
        for (int row : new int[] {-1, 3, 80, Integer.MIN_VALUE, Integer.MAX_VALUE}) {
            Checks.index("row " + row, () -> x.other(row));
        }
        Checks.due("the last", -1, x.other(2));
    }

    /** Rows by exporter, source, target, service and begin, each of one byte, in one epoch. */
    private static String pairs(int... rows) {
        Post p = new Post();
        for (int e = 0; e < 2; e++) {
            p.hears("template", 0, e, 0, 0, 0, 1, 4, 0, 1, 1, 1, 2, 1, 5, 1);
        }
        for (int i = 0; i < rows.length; i += 5) {
            p.hears("row", 1, rows[i], 0, 1, 0, 1, 1, i, rows[i + 1], rows[i + 2], rows[i + 3], rows[i + 4]);
        }
        StringBuilder text = new StringBuilder();
        for (int row = 0; row < p.x.rows(); row++) {
            text.append(row == 0 ? "" : " ").append(p.x.other(row));
        }
        return text.toString();
    }

    private static void otherIsMinusOneIfNoneIs() {
        Checks.sentence("21: -1 if none is");
        Checks.due("one row", "-1", pairs(0, 1, 2, 3, 10));
        Checks.due("one row is not its own other", "-1", pairs(0, 4, 4, 3, 10));
        Checks.due("two in one direction", "-1 -1", pairs(0, 1, 2, 3, 10, 0, 1, 2, 3, 10));
        Checks.due("two in both", "1 0", pairs(0, 1, 2, 3, 10, 0, 2, 1, 3, 10));
        Checks.due("three, of which one is left", "1 0 -1", pairs(0, 1, 2, 3, 10, 0, 2, 1, 3, 10, 0, 2, 1, 3, 10));
    }

    private static void onlyRowsWithFourFieldsArePaired() {
        Checks.sentence("21: of those that have fields 0, 1, 2 and 5");
        int[] needed = {0, 1, 2, 5};
        for (int missing = 0; missing < 4; missing++) {
            Post p = new Post();
            int[] fields = {0, 1, 2, 5};
            fields[missing] = 6;
            p.hears("all four", 0, 0, 0, 0, 0, 1, 4, 0, 1, 1, 1, 2, 1, 5, 1);
            p.hears("not all", 0, 0, 0, 0, 1, 1, 4, fields[0], 1, fields[1], 1, fields[2], 1, fields[3], 1);
            p.hears("a row without one", 1, 0, 0, 1, 1, 1, 1, 0, 4, 4, 4, 4);
            p.hears("and another", 1, 0, 0, 1, 1, 1, 1, 1, 4, 4, 4, 4);
            p.hears("a row with all", 1, 0, 0, 1, 0, 1, 1, 2, 4, 4, 4, 4);
            for (int row = 0; row < 3; row++) {
                Checks.due("row " + row + " without field " + needed[missing], -1, p.x.other(row));
            }
            p.hears("another row with all", 1, 0, 0, 1, 0, 1, 1, 3, 4, 4, 4, 4);
            Checks.due("the two with all", 3, p.x.other(2));
            Checks.due("the others not", -1, p.x.other(0));
        }
    }

    private static void theEarlierRowChoosesFirst() {
        Checks.sentence("21: in the order of field 5");
        Checks.due("the later row chose first", "2 -1 0", pairs(0, 2, 1, 3, 20, 0, 1, 2, 3, 21, 0, 1, 2, 3, 10));
        Checks.due("by one tick", "2 -1 0", pairs(0, 2, 1, 3, 20, 0, 1, 2, 3, 11, 0, 1, 2, 3, 10));
        Checks.due("behind a row that is not paired", "-1 -1 3 2",
                pairs(0, 9, 9, 9, 5, 0, 1, 2, 3, 21, 0, 1, 2, 3, 20, 0, 2, 1, 3, 30));
        Checks.due("each before the one that came before", "-1 -1 3 2 -1",
                pairs(0, 1, 2, 3, 60, 0, 1, 2, 3, 50, 0, 1, 2, 3, 40, 0, 2, 1, 3, 70, 0, 9, 9, 9, 1));
        Checks.due("ticks above 127", "2 -1 0", pairs(0, 2, 1, 3, 255, 0, 1, 2, 3, 201, 0, 1, 2, 3, 200));
    }

    private static void withTheSameBeginTheLesserRowChoosesFirst() {
        Checks.sentence("21: of several with the same the lesser row first");
        Checks.due("both began at 10", "2 -1 0", pairs(0, 1, 2, 3, 10, 0, 1, 2, 3, 10, 0, 2, 1, 3, 30));
        Checks.due("three began at 10", "3 -1 -1 0",
                pairs(0, 1, 2, 3, 10, 0, 1, 2, 3, 10, 0, 1, 2, 3, 10, 0, 2, 1, 3, 11));
    }

    private static void aPairedRowIsNotPairedAgain() {
        Checks.sentence("21: each one that is not paired yet is paired with that other row, not paired");
        Checks.due("the nearer one comes too late", "1 0 -1", pairs(0, 1, 2, 3, 10, 0, 2, 1, 3, 100, 0, 1, 2, 3, 99));
        Checks.due("the next nearest is left", "2 3 0 1",
                pairs(0, 1, 2, 3, 10, 0, 1, 2, 3, 11, 0, 2, 1, 3, 12, 0, 2, 1, 3, 50));
        Checks.due("four of one key both ways round", "1 0 3 2",
                pairs(0, 4, 4, 3, 10, 0, 4, 4, 3, 11, 0, 4, 4, 3, 12, 0, 4, 4, 3, 13));
    }

    private static void anotherRowOfTheSameExporter() {
        Checks.sentence("21: of the same exporter");
        Checks.due("of two exporters", "-1 -1", pairs(0, 1, 2, 3, 10, 1, 2, 1, 3, 10));
        Checks.due("of exporter 1", "1 0", pairs(1, 1, 2, 3, 10, 1, 2, 1, 3, 10));
        Checks.due("a nearer one of the other", "2 -1 0", pairs(0, 1, 2, 3, 10, 1, 2, 1, 3, 10, 0, 2, 1, 3, 90));
    }

    private static void theOtherWayRoundAndTheSameService() {
        Checks.sentence("21: which has its source and target the other way round and the same service");
        Checks.due("another service", "-1 -1", pairs(0, 1, 2, 3, 10, 0, 2, 1, 4, 10));
        Checks.due("another source", "-1 -1", pairs(0, 1, 2, 3, 10, 0, 3, 1, 3, 10));
        Checks.due("another target", "-1 -1", pairs(0, 1, 2, 3, 10, 0, 2, 3, 3, 10));
        Checks.due("the same way round", "-1 -1", pairs(0, 1, 2, 3, 10, 0, 1, 2, 3, 11));
        Checks.due("0 and 255", "1 0", pairs(0, 0, 255, 0, 0, 0, 255, 0, 0, 255));
    }

    private static void theNearestIsTaken() {
        Checks.sentence("21: with the one whose field 5 is nearest to its own");
        Checks.due("the lesser row", "1 0 -1", pairs(0, 1, 2, 3, 10, 0, 2, 1, 3, 20, 0, 2, 1, 3, 21));
        Checks.due("the greater row", "2 -1 0", pairs(0, 1, 2, 3, 10, 0, 2, 1, 3, 21, 0, 2, 1, 3, 20));
        Checks.due("the same tick", "2 -1 0", pairs(0, 1, 2, 3, 10, 0, 2, 1, 3, 11, 0, 2, 1, 3, 10));
    }

    private static void ofSeveralNearestTheLeastRow() {
        Checks.sentence("21: of several the least row");
        Checks.due("of two", "1 0 -1", pairs(0, 1, 2, 3, 10, 0, 2, 1, 3, 20, 0, 2, 1, 3, 20));
        Checks.due("of three, before its own", "3 -1 -1 0",
                pairs(0, 2, 1, 3, 20, 0, 2, 1, 3, 20, 0, 2, 1, 3, 20, 0, 1, 2, 3, 10));
        // Of the same begin, too: row 0 chooses, and both of the others are as near as can be.
        Checks.due("of the same begin", "1 0 -1", pairs(0, 1, 2, 3, 10, 0, 2, 1, 3, 10, 0, 2, 1, 3, 10));
    }

    private static void pairsAreOfTheRowsThatAreThere() {
        Checks.sentence("21: Rows are PAIRED so (anew with each row that came)");
        Post p = new Post();
        p.hears("template", 0, 0, 0, 0, 0, 1, 4, 0, 1, 1, 1, 2, 1, 5, 1);
        for (int i = 0; i < 20; i++) {
            // Each row is nearer to the first one than all before it were.
            p.hears("row", 1, 0, 0, 1, 0, 1, 1, i, i == 0 ? 1 : 2, i == 0 ? 2 : 1, 3, i == 0 ? 0 : 100 - i);
            Checks.due("the first one's other", i == 0 ? -1 : i, p.x.other(0));
            Checks.due("the new one's other", i == 0 ? -1 : 0, p.x.other(i));
            Checks.due("the one before's other", i == 1 ? 1 : -1, p.x.other(i == 0 ? 0 : i - 1));
        }
    }

    private static void countNeedsAnExporter() {
        Checks.sentence("22: there is no such exporter");
        FlowShelf x = new FlowShelf();
        for (int e : Checks.NO_EXPORTER) {
            for (int which = 0; which < 10; which++) {
                int asked = which;
                Checks.argument("count " + which + " of " + e, () -> x.count(e, asked));
            }
        }
        x.tick(1, 4);
        Checks.due("of 0", 0, x.count(0, 0));
        Checks.due("of 1", 4, x.count(1, 0));
    }

    private static void countNeedsANumber() {
        Checks.sentence("22: there is no such number");
        Post p = new Post();
        for (int which : new int[] {-1, 10, Integer.MIN_VALUE, Integer.MAX_VALUE}) {
            Checks.argument("number " + which, () -> p.x.count(0, which));
        }
        FlowShelf x = new FlowShelf();
        x.restart(0);
        x.tick(0, 9);
        Checks.template(x, 0, 0, 0, 1);
        Checks.finished(x, 0, 4);
        x.report(0);
        Checks.finished(x, 0, 3);
        x.packet(0, 1, 1, 1, 1, false);
        x.packet(0, 2, 1, 1, 1, false);
        x.sampler(0, 7);
        x.hear(x.tell(0));
        Checks.due("numbers 0 to 9", "9 1 2 3 4 0 0 0 0 7", Checks.counts(x, 0));
    }

    private static void lostNeedsTwoPlaces() {
        Checks.sentence("22: LOST records: between the least and the greatest one that was heard (of none, of one)");
        Post p = new Post();
        Checks.due("of none", 0, p.x.count(0, 5));
        p.hears("place 50", 0, 0, 0, 1, 0, 1, 1, 50, 7);
        Checks.due("of one", 0, p.x.count(0, 5));
        p.hears("place 51", 0, 0, 0, 1, 0, 1, 1, 51, 7);
        Checks.due("of two side by side", 0, p.x.count(0, 5));
        p.hears("place 53", 0, 0, 0, 1, 0, 1, 1, 53, 7);
        Checks.due("one is between", 1, p.x.count(0, 5));
        p.hears("place 48", 0, 0, 0, 1, 0, 1, 1, 48, 7);
        Checks.due("one more is between", 2, p.x.count(0, 5));
        p.hears("place 52", 0, 0, 0, 1, 0, 1, 1, 52, 7);
        Checks.due("one was late, not lost", 1, p.x.count(0, 5));
    }

    private static void lostIsBetweenTheLeastAndTheGreatest() {
        Checks.sentence("22: LOST records: places that were not heard (from 0 to 99)");
        Post p = new Post();
        p.hears("place 0", 0, 0, 0, 1, 0, 1, 1, 0, 7);
        p.hears("place 99", 0, 0, 0, 1, 0, 1, 1, 99, 7);
        Checks.due("all between", 98, p.x.count(0, 5));
        p.hears("places 1 to 98", 0, 0, 0, 1, 0, 1, 98, 1, 7);
        Checks.due("none", 0, p.x.count(0, 5));
    }

    private static void lostIsOverAllEpochs() {
        Checks.sentence("22: LOST records: over all its epochs");
        Post p = new Post();
        for (int epoch = 0; epoch <= 5; epoch++) {
            p.hears("place 90", 0, 0, epoch, 1, 0, 1, 1, 90, 7);
            Checks.due("one place of an epoch", 9 * epoch, p.x.count(0, 5));
            p.hears("place 80", 0, 0, epoch, 1, 0, 1, 1, 80, 7);
            Checks.due("two places of an epoch", 9 * epoch + 9, p.x.count(0, 5));
        }
        p.hears("place 0 of the other exporter", 0, 1, 0, 1, 0, 1, 1, 0, 7);
        p.hears("place 2 of it", 0, 1, 0, 1, 0, 1, 1, 2, 7);
        Checks.due("the other's", 1, p.x.count(1, 5));
        Checks.due("its own", 54, p.x.count(0, 5));
        p.x.restart(0);
        Checks.due("a restart loses none", 54, p.x.count(0, 5));
    }

    private static void theCollectorsCountsAreAnExporters() {
        Checks.sentence("22: what the collector has of it: 6 reports on the shelf, 7 dropped, 8 spoilt");
        Post p = new Post();
        for (int i = 0; i < 7; i++) {
            p.hears("records of 0", 0, 0, 0, 1, 0, 1, 1, i, 7, 8);
        }
        for (int i = 0; i < 3; i++) {
            p.hears("records of 1", 0, 1, 0, 1, 0, 1, 1, i, 7, 8);
        }
        Checks.due("of 0 on the shelf", 2, p.x.count(0, 6));
        Checks.due("of 1 on the shelf", 3, p.x.count(1, 6));
        Checks.due("of 0 dropped", 5, p.x.count(0, 7));
        Checks.due("of 1 dropped", 0, p.x.count(1, 7));
        p.hears("template of 1", 0, 1, 0, 0, 0, 1, 1, 0, 1);
        Checks.due("of 0 spoilt", 0, p.x.count(0, 8));
        Checks.due("of 1 spoilt", 3, p.x.count(1, 8));
        p.hears("template of 0", 0, 0, 0, 0, 0, 1, 1, 0, 1);
        Checks.due("of 0 spoilt", 2, p.x.count(0, 8));
        Checks.due("of 0 on the shelf", 0, p.x.count(0, 6));
        Checks.due("of 1 on the shelf", 0, p.x.count(1, 6));
    }

    private static void theNotedNIsZeroIfNone() {
        Checks.sentence("22: 9 the noted n (0: none)");
        FlowShelf x = new FlowShelf();
        x.sampler(0, 6);
        x.tell(0);
        Checks.due("told, but not heard", 0, x.count(0, 9));
        x.hear(0);
        Checks.due("heard", 6, x.count(0, 9));
        Checks.due("of the other none", 0, x.count(1, 9));
        x.sampler(0, 7);
        x.restart(0);
        Checks.due("what was noted stays", 6, x.count(0, 9));
    }
}
