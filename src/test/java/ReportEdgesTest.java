/** Promises 12 to 16 at their edges: a test of its own for each sentence that names one. */
public final class ReportEdgesTest {
    private static final int[] FAR = {-1, Integer.MIN_VALUE, Integer.MAX_VALUE};

    public static void main(String[] args) {
        reportsNeedAnExporter();
        reportsNeedAnEndedFlow();
        reportsNeedATemplateInForce();
        reportsNeedAPlace();
        recordsStopAtThirtyReports();
        aRefusedReportTakesNoFlow();
        placesAreZeroToNinetyNine();
        theLastPlacesTakeTheFirstFlows();
        sixtyFourBytesAreHeld();
        sixtyFiveBytesAreNotHeld();
        variableRecordsAreHeldToTheByte();
        aReportTakesTheFirstFlows();
        theTemplateThatWasSealedLastIsUsed();
        aVariableFieldHasAsFewBytesAsCanBe();
        variableTicksHaveAsFewBytesAsCanBe();
        fieldsOfALengthHaveTheHighestByteFirst();
        theGreatestValuesFitTheLeastLengths();
        tellNeedsAnExporter();
        tellStopsAtThirtyReports();
        tellCountsWhatTheEpochHadBefore();
        tellWritesTheSampler();
        reportsAreNumberedAsTheyAreMade();
        sizeOfNoReportIsMinusOne();
        byteOfNeedsAReport();
        byteOfNeedsAByte();
        pokeNeedsAReport();
        pokeNeedsAByte();
        pokeNeedsAValue();
        Checks.close();
    }

    /** Flows with records of 1 byte: 99 of them written, and the given ones ended. */
    private static FlowShelf withNinetyNine(int more) {
        FlowShelf x = new FlowShelf();
        Checks.template(x, 0, 0, 0, 1);
        for (int i = 0; i < 4; i++) {
            Checks.finished(x, 0, 20);
            x.report(0);
        }
        Checks.finished(x, 0, 19);
        x.report(0);
        Checks.finished(x, 0, more);
        return x;
    }

    private static void reportsNeedAnExporter() {
        Checks.sentence("12: there is no such exporter");
        FlowShelf x = new FlowShelf();
        for (int e = 0; e < 2; e++) {
            Checks.template(x, e, 0, 0, 1);
            Checks.finished(x, e, 1);
        }
        for (int e : Checks.NO_EXPORTER) {
            Checks.argument("report of " + e, () -> x.report(e));
        }
        Checks.due("report of 0", 0, x.report(0));
        Checks.due("report of 1", 1, x.report(1));
        Checks.due("its exporter", 1, x.byteOf(1, 0));
    }

    private static void reportsNeedAnEndedFlow() {
        Checks.sentence("12: no flow is ended");
        FlowShelf x = new FlowShelf();
        Checks.template(x, 0, 0, 0, 1);
        Checks.finished(x, 1, 1);
        Checks.state("no flow at all", () -> x.report(0));
        x.packet(0, 1, 1, 1, 1, false);
        Checks.state("one in the cache", () -> x.report(0));
        Checks.due("no report was made", -1, x.size(0));
        x.flush(0);
        Checks.due("one that is ended", 0, x.report(0));
        Checks.state("none any more", () -> x.report(0));
    }

    private static void reportsNeedATemplateInForce() {
        Checks.sentence("12: no template in force");
        FlowShelf x = new FlowShelf();
        Checks.finished(x, 0, 2);
        Checks.template(x, 1, 0, 0, 1);
        Checks.state("none", () -> x.report(0));
        x.field(0, 0, 7, 1);
        Checks.state("a draft only", () -> x.report(0));
        x.seal(0, 0);
        x.withdraw(0, 0);
        Checks.state("withdrawn", () -> x.report(0));
        Checks.due("no report was made", -1, x.size(0));
        Checks.due("no flow went", 2, x.count(0, 3));
        Checks.template(x, 0, 2, 7, 1);
        Checks.due("one in force", 0, x.report(0));
    }

    private static void reportsNeedAPlace() {
        Checks.sentence("12: no place left");
        FlowShelf x = withNinetyNine(1);
        Checks.due("the 100th record", 5, x.report(0));
        Checks.due("at place 99", "0 0 1 0 1 1 99 0", Checks.bytes(x, 5));
        Checks.finished(x, 0, 1);
        Checks.state("the 101st", () -> x.report(0));
        Checks.due("its flow stays", 1, x.count(0, 3));
        Checks.due("written", 100, x.count(0, 4));
        Checks.due("no report was made", -1, x.size(6));
    }

    private static void recordsStopAtThirtyReports() {
        Checks.sentence("12: there are 30 reports");
        FlowShelf x = new FlowShelf();
        Checks.template(x, 0, 0, 0, 1);
        for (int i = 0; i < 29; i++) {
            x.tell(1);
        }
        Checks.finished(x, 0, 1);
        Checks.due("the 30th", 29, x.report(0));
        Checks.finished(x, 0, 1);
        Checks.state("the 31st", () -> x.report(0));
        Checks.argument("a wrong exporter is wrong first", () -> x.report(2));
        Checks.due("the 30th is there", "0 0 1 0 1 1 0 0", Checks.bytes(x, 29));
        Checks.due("no 31st is there", -1, x.size(30));
    }

    private static void aRefusedReportTakesNoFlow() {
        Checks.sentence("12: there are 30 reports (a refused report writes nothing)");
        FlowShelf x = new FlowShelf();
        Checks.template(x, 0, 0, 0, 1);
        Checks.finished(x, 0, 3);
        for (int i = 0; i < 30; i++) {
            x.tell(1);
        }
        Checks.state("refused", () -> x.report(0));
        Checks.due("counts", "0 0 0 3 0 0 0 0 0 0", Checks.counts(x, 0));
        Checks.due("the first flow", 0, x.ended(0, 0, 0));
    }

    private static void placesAreZeroToNinetyNine() {
        Checks.sentence("Records of an epoch have places 0, 1, .. 99 as they are written");
        FlowShelf x = withNinetyNine(1);
        x.report(0);
        int[] first = {0, 20, 40, 60, 80, 99};
        for (int i = 0; i < first.length; i++) {
            Checks.due("place of report " + i, first[i], x.byteOf(i, 6));
        }
        Checks.due("written", 100, x.count(0, 4));
        Checks.template(x, 1, 0, 0, 1);
        Checks.finished(x, 1, 1);
        Checks.due("the other exporter has its own", "1 0 1 0 1 1 0 0", Checks.bytes(x, x.report(1)));
        x.restart(0);
        Checks.template(x, 0, 0, 0, 1);
        Checks.finished(x, 0, 1);
        Checks.due("the next epoch has its own", "0 1 1 0 1 1 0 0", Checks.bytes(x, x.report(0)));
    }

    private static void theLastPlacesTakeTheFirstFlows() {
        Checks.sentence("12: as many as places are left");
        FlowShelf x = withNinetyNine(2);
        x.report(0);
        Checks.due("one of two", "0 0 1 0 1 1 99 0", Checks.bytes(x, 5));
        Checks.due("the other one stays", "1 0 0 0 1 0 0 3", Checks.flow(x, 0, 0));
        Checks.due("it alone", 1, x.count(0, 3));
        Checks.state("without a place", () -> x.report(0));
    }

    private static void sixtyFourBytesAreHeld() {
        Checks.sentence("12: as many as a report of 64 bytes holds (64 are held)");
        FlowShelf small = new FlowShelf();
        Checks.template(small, 0, 0, 3, 3);
        Checks.finished(small, 0, 20);
        small.report(0);
        Checks.due("19 records of 3 bytes", 64, small.size(0));
        Checks.due("records", 19, small.byteOf(0, 5));
        Checks.due("the 20th stays", 19, small.ended(0, 0, 0));
        Checks.due("alone", 1, small.count(0, 3));

        FlowShelf large = new FlowShelf();
        Checks.template(large, 0, 0, 0, 4, 1, 4, 2, 4, 3, 4, 4, 2, 7, 1);
        Checks.finished(large, 0, 4);
        large.report(0);
        Checks.due("3 records of 19 bytes", 64, large.size(0));
        Checks.due("the last byte is the last one's reason", 3, large.byteOf(0, 63));
        Checks.due("the 4th stays", 1, large.count(0, 3));
    }

    private static void sixtyFiveBytesAreNotHeld() {
        Checks.sentence("12: as many as a report of 64 bytes holds (65 are not held)");
        FlowShelf x = new FlowShelf();
        Checks.template(x, 0, 0, 0, 4, 1, 4, 2, 4, 3, 4, 4, 4, 5, 4, 6, 4, 7, 1);
        Checks.finished(x, 0, 2);
        x.report(0);
        Checks.due("1 record of 29 bytes, as 2 would make 65", 36, x.size(0));
        Checks.due("records", 1, x.byteOf(0, 5));
        x.report(0);
        Checks.due("the other one", 36, x.size(1));
        Checks.due("its place", 1, x.byteOf(1, 6));
        FlowShelf y = new FlowShelf();
        Checks.template(y, 0, 0, 0, 4, 1, 4, 2, 4, 3, 4, 4, 4, 5, 4, 6, 4, 7, 4);
        Checks.finished(y, 0, 2);
        y.report(0);
        Checks.due("the longest record, of 32 bytes", 39, y.size(0));
    }

    private static void variableRecordsAreHeldToTheByte() {
        Checks.sentence("12: as many as a report of 64 bytes holds (with variable fields)");
        // A record has 26 bytes of fixed fields, one that tells the length, and one or two of the value.
        int[][] bytes = {{255, 256}, {256, 255}, {256, 256}, {255, 255}};
        int[] size = {64, 64, 36, 63};
        for (int i = 0; i < bytes.length; i++) {
            FlowShelf x = new FlowShelf();
            Checks.template(x, 0, 0, 0, 4, 1, 4, 2, 4, 3, 0, 4, 4, 5, 4, 6, 4, 7, 2);
            for (int each : bytes[i]) {
                x.packet(0, 1, 1, 1, each, true);
            }
            x.report(0);
            Checks.due(bytes[i][0] + " and " + bytes[i][1] + " bytes", size[i], x.size(0));
            Checks.due("records", size[i] > 36 ? 2 : 1, x.byteOf(0, 5));
            Checks.due("flows left", size[i] > 36 ? 0 : 1, x.count(0, 3));
        }
    }

    private static void aReportTakesTheFirstFlows() {
        Checks.sentence("12: The first ended flows, which are there no more then");
        FlowShelf x = new FlowShelf();
        Checks.template(x, 0, 0, 0, 4, 1, 4, 2, 4, 3, 4, 4, 4, 5, 4);
        for (int i = 0; i < 5; i++) {
            x.packet(0, 50 - i, 1, 1, 1, true);
        }
        x.report(0);
        Checks.due("two of 24 bytes", 2, x.byteOf(0, 5));
        Checks.due("the first", 50, x.byteOf(0, 10));
        Checks.due("the second", 49, x.byteOf(0, 34));
        Checks.due("the third is the first now", 48, x.ended(0, 0, 0));
        x.report(0);
        Checks.due("the third", 48, x.byteOf(1, 10));
        x.report(0);
        Checks.due("the last", 46, x.byteOf(2, 10));
        Checks.due("alone", 1, x.byteOf(2, 5));
        Checks.due("none is left", 0, x.count(0, 3));
    }

    private static void theTemplateThatWasSealedLastIsUsed() {
        Checks.sentence("12: by the template in force that was sealed last");
        FlowShelf x = new FlowShelf();
        x.field(0, 0, 0, 1);
        Checks.template(x, 0, 2, 0, 1);
        Checks.template(x, 0, 1, 0, 1);
        x.field(0, 2, 0, 1);
        Checks.state("a refused seal is none", () -> x.seal(0, 2));
        Checks.template(x, 1, 0, 0, 1);
        Checks.due("sealed last", "1 1", templateUsed(x));
        x.seal(0, 0);
        Checks.due("drafted first, sealed last", "0 1", templateUsed(x));
        x.withdraw(0, 0);
        Checks.due("the one before, when the last is withdrawn", "1 1", templateUsed(x));
        x.withdraw(0, 2);
        x.seal(0, 2);
        Checks.due("sealed once more", "2 2", templateUsed(x));
        Checks.template(x, 0, 0, 0, 1);
        x.withdraw(0, 0);
        Checks.template(x, 0, 0, 0, 1);
        Checks.due("of the greatest revision", "0 3", templateUsed(x));
        x.withdraw(0, 1);
        Checks.template(x, 0, 1, 0, 1);
        Checks.due("of a lesser revision, but sealed last", "1 2", templateUsed(x));
        x.withdraw(0, 1);
        x.withdraw(0, 0);
        Checks.due("the one that is left", "2 2", templateUsed(x));
    }

    private static String templateUsed(FlowShelf x) {
        x.packet(0, 1, 1, 1, 1, true);
        int made = x.report(0);
        return x.byteOf(made, 3) + " " + x.byteOf(made, 4);
    }

    private static void aVariableFieldHasAsFewBytesAsCanBe() {
        Checks.sentence("a variable one a byte that tells how many bytes follow, and these, as few as can be, at least one");
        FlowShelf x = new FlowShelf();
        Checks.template(x, 0, 0, 3, 0);
        x.packet(0, 1, 1, 1, 0, true);
        x.packet(0, 1, 1, 1, 1, true);
        x.packet(0, 1, 1, 1, 255, true);
        x.packet(0, 1, 1, 1, 256, true);
        for (int last : new int[] {5541, 5542}) {
            for (int i = 0; i < 6; i++) {
                x.packet(0, 1, 1, 1, 9999, false);
            }
            x.packet(0, 1, 1, 1, last, true);
        }
        x.report(0);
        Checks.due("0, 1, 255, 256, 65535, 65536", "0 0 1 0 1 6 0 1 0 1 1 1 255 2 1 0 2 255 255 3 1 0 0",
                Checks.bytes(x, 0));
    }

    private static void variableTicksHaveAsFewBytesAsCanBe() {
        Checks.sentence("as few as can be, at least one (of each field)");
        FlowShelf x = new FlowShelf();
        Checks.template(x, 0, 0, 0, 0, 1, 0, 2, 0, 4, 0, 5, 0, 6, 0, 7, 0);
        x.packet(0, 0, 255, 0, 1, true);
        x.tick(0, 100);
        x.tick(0, 100);
        x.tick(0, 55);
        x.packet(0, 255, 0, 255, 1, false);
        x.tick(0, 1);
        x.flush(0);
        x.report(0);
        Checks.due("ticks 0, 255 and 256", "0 0 1 0 1 2 0 1 0 1 255 1 0 1 1 1 0 1 0 1 3 1 255 1 0 1 255 1 1 1 255 2 1 0 1 5",
                Checks.bytes(x, 0));
    }

    private static void fieldsOfALengthHaveTheHighestByteFirst() {
        Checks.sentence("a field of a length has so many bytes, the highest first");
        FlowShelf x = new FlowShelf();
        Checks.template(x, 0, 0, 3, 4, 0, 1, 1, 2, 2, 3);
        for (int i = 0; i < 7; i++) {
            x.packet(0, 201, 202, 203, 9999, i == 6);
        }
        x.report(0);
        // 7 * 9999 is 69993, which is 1 * 65536 + 17 * 256 + 105.
        Checks.due("lengths 4, 1, 2, 3", "0 0 1 0 1 1 0 0 1 17 105 201 0 202 0 0 203", Checks.bytes(x, 0));
    }

    private static void theGreatestValuesFitTheLeastLengths() {
        Checks.sentence("The LEAST LENGTH of each: 1, 1, 1, 3, 2, 2, 2, 1");
        FlowShelf x = new FlowShelf();
        Checks.template(x, 0, 0, 0, 1, 1, 1, 2, 1, 3, 3, 4, 2, 5, 2, 6, 2, 7, 1);
        for (int i = 0; i < 200; i++) {
            x.tick(0, 100);
        }
        for (int i = 0; i < 257; i++) {
            x.packet(0, 255, 255, 255, 9999, i == 256);
        }
        x.report(0);
        // 257 * 9999 is 2569743, which is 39 * 65536 + 54 * 256 + 15; tick 20000 is 78 * 256 + 32.
        Checks.due("in 13 bytes", "0 0 1 0 1 1 0 255 255 255 39 54 15 1 1 78 32 78 32 3", Checks.bytes(x, 0));
    }

    private static void tellNeedsAnExporter() {
        Checks.sentence("13: there is no such exporter");
        FlowShelf x = new FlowShelf();
        for (int e : Checks.NO_EXPORTER) {
            Checks.argument("tell of " + e, () -> x.tell(e));
        }
        Checks.due("tell of 0", 0, x.tell(0));
        Checks.due("tell of 1", 1, x.tell(1));
        Checks.due("its bytes", "1 0 2 0 1", Checks.bytes(x, 1));
    }

    private static void tellStopsAtThirtyReports() {
        Checks.sentence("13: there are 30 reports");
        FlowShelf x = new FlowShelf();
        for (int i = 0; i < 30; i++) {
            Checks.due("tell", i, x.tell(0));
        }
        Checks.state("the 31st", () -> x.tell(0));
        Checks.state("of the other exporter", () -> x.tell(1));
        Checks.argument("a wrong exporter is wrong first", () -> x.tell(2));
        x.restart(0);
        Checks.state("in a new epoch", () -> x.tell(0));
        Checks.due("the 30th is there", "0 0 2 29 1", Checks.bytes(x, 29));
        Checks.due("no 31st is there", -1, x.size(30));
    }

    private static void tellCountsWhatTheEpochHadBefore() {
        Checks.sentence("Kind 2, a SAMPLER: 3 how many of these this epoch had before");
        FlowShelf x = new FlowShelf();
        Checks.template(x, 0, 0, 0, 1);
        Checks.due("none", 0, x.byteOf(x.tell(0), 3));
        x.announce(0, 0);
        Checks.due("one, as a template is none of these", 1, x.byteOf(x.tell(0), 3));
        Checks.due("none of the other exporter", 0, x.byteOf(x.tell(1), 3));
        x.restart(0);
        Checks.due("none of the new epoch", 0, x.byteOf(x.tell(0), 3));
        Checks.due("the other exporter's epoch goes on", 1, x.byteOf(x.tell(1), 3));
    }

    private static void tellWritesTheSampler() {
        Checks.sentence("Kind 2, a SAMPLER: 4 the n, and no more");
        FlowShelf x = new FlowShelf();
        for (int n = 1; n <= 9; n++) {
            x.sampler(0, n);
            Checks.due("told", "0 0 2 " + (n - 1) + " " + n, Checks.bytes(x, x.tell(0)));
        }
    }

    private static void reportsAreNumberedAsTheyAreMade() {
        Checks.sentence("reports have numbers 0, 1, .. as they are made, at most 30");
        FlowShelf x = new FlowShelf();
        Checks.template(x, 0, 0, 0, 1);
        Checks.template(x, 1, 0, 0, 1);
        for (int i = 0; i < 30; i += 3) {
            int e = i % 2;
            x.packet(e, 1, 1, 1, 1, true);
            Checks.due("announce", i, x.announce(e, 0));
            Checks.due("report", i + 1, x.report(e));
            Checks.due("tell", i + 2, x.tell(1 - e));
        }
        x.packet(0, 1, 1, 1, 1, true);
        Checks.state("announce", () -> x.announce(0, 0));
        Checks.state("report", () -> x.report(0));
        Checks.state("tell", () -> x.tell(0));
    }

    private static void sizeOfNoReportIsMinusOne() {
        Checks.sentence("14: -1 if there is none such");
        FlowShelf x = new FlowShelf();
        Checks.due("of none", -1, x.size(0));
        for (int i = 0; i < 30; i++) {
            x.tell(0);
            Checks.due("the last one", 5, x.size(i));
            Checks.due("behind it", -1, x.size(i + 1));
        }
        for (int far : FAR) {
            Checks.due("of " + far, -1, x.size(far));
        }
    }

    /** Report 0 has 5 bytes and report 1 has 64. */
    private static FlowShelf withTwoReports() {
        FlowShelf x = new FlowShelf();
        x.tell(1);
        Checks.template(x, 0, 0, 7, 3);
        Checks.finished(x, 0, 19);
        x.report(0);
        return x;
    }

    private static void byteOfNeedsAReport() {
        Checks.sentence("15: there is no such report");
        FlowShelf x = withTwoReports();
        Checks.due("of the first", 1, x.byteOf(0, 0));
        Checks.due("of the last", 0, x.byteOf(1, 0));
        Checks.index("of the next", () -> x.byteOf(2, 0));
        for (int far : FAR) {
            Checks.index("of " + far, () -> x.byteOf(far, 0));
        }
    }

    private static void byteOfNeedsAByte() {
        Checks.sentence("15: there is no such byte");
        FlowShelf x = withTwoReports();
        Checks.due("the last of 5", 1, x.byteOf(0, 4));
        Checks.index("behind the 5", () -> x.byteOf(0, 5));
        Checks.due("the last of 64", 3, x.byteOf(1, 63));
        Checks.index("behind the 64", () -> x.byteOf(1, 64));
        for (int far : FAR) {
            Checks.index("byte " + far, () -> x.byteOf(1, far));
        }
    }

    private static void pokeNeedsAReport() {
        Checks.sentence("16: there is no such report");
        FlowShelf x = withTwoReports();
        Checks.index("of the next", () -> x.poke(2, 0, 0));
        Checks.index("of the next, v wrong too", () -> x.poke(2, 0, 256));
        for (int far : FAR) {
            Checks.index("of " + far, () -> x.poke(far, 0, 0));
        }
        x.poke(0, 0, 77);
        x.poke(1, 0, 88);
        Checks.due("of the first", "77 0 2 0 1", Checks.bytes(x, 0));
        Checks.due("of the last", 88, x.byteOf(1, 0));
        Checks.due("no report was made", -1, x.size(2));
    }

    private static void pokeNeedsAByte() {
        Checks.sentence("16: there is no such byte");
        FlowShelf x = withTwoReports();
        Checks.index("behind the 5", () -> x.poke(0, 5, 0));
        Checks.index("behind the 64", () -> x.poke(1, 64, 0));
        Checks.index("behind the 64, v wrong too", () -> x.poke(1, 64, -1));
        for (int far : FAR) {
            Checks.index("byte " + far, () -> x.poke(0, far, 0));
        }
        Checks.due("nothing changed", "1 0 2 0 1", Checks.bytes(x, 0));
        x.poke(0, 4, 9);
        x.poke(1, 63, 99);
        Checks.due("the last of 5", "1 0 2 0 9", Checks.bytes(x, 0));
        Checks.due("the last of 64", 99, x.byteOf(1, 63));
        Checks.due("and no more", 64, x.size(1));
    }

    private static void pokeNeedsAValue() {
        Checks.sentence("16: v is not 0 .. 255");
        FlowShelf x = withTwoReports();
        for (int v : new int[] {-1, 256, Integer.MIN_VALUE, Integer.MAX_VALUE}) {
            Checks.argument("v " + v, () -> x.poke(0, 3, v));
        }
        Checks.due("nothing changed", "1 0 2 0 1", Checks.bytes(x, 0));
        x.poke(0, 3, 255);
        Checks.due("255", "1 0 2 255 1", Checks.bytes(x, 0));
        x.poke(0, 3, 0);
        Checks.due("0", "1 0 2 0 1", Checks.bytes(x, 0));
    }
}
