/** Promises 12 to 16: report, tell, size, byteOf, poke. */
public final class ReportTest {
    public static void main(String[] args) {
        recordsHaveTheirFields();
        variableFieldsAreShort();
        aReportHoldsSixtyFourBytes();
        variableRecordsAreMeasuredOneByOne();
        theTemplateSealedLastIsUsed();
        tellWritesTheSampler();
        pokeChangesOneByte();
        Checks.close();
    }

    private static void recordsHaveTheirFields() {
        FlowShelf x = new FlowShelf();
        x.restart(1);
        x.tick(1, 100);
        x.tick(1, 100);
        x.tick(1, 100);
        Checks.template(x, 1, 1, 7, 1, 6, 2, 5, 3, 4, 4, 3, 3, 2, 1, 1, 2, 0, 4);
        for (int i = 0; i < 7; i++) {
            x.packet(1, 200, 100, 50, 9999, false);
        }
        x.tick(1, 1);
        x.packet(1, 200, 100, 50, 9999, true);
        Checks.due("number", 0, x.report(1));
        // 8 * 9999 is 79992, which is 1 * 65536 + 56 * 256 + 120; tick 300 is 1 * 256 + 44.
        Checks.due("bytes", "1 1 1 1 1 1 0 3 1 45 0 1 44 0 0 0 8 1 56 120 50 0 100 0 0 0 200",
                Checks.bytes(x, 0));
        Checks.due("the flow is there no more", 0, x.count(1, 3));
        Checks.due("written", 1, x.count(1, 4));
        Checks.due("written by the other", 0, x.count(0, 4));
    }

    private static void variableFieldsAreShort() {
        FlowShelf x = new FlowShelf();
        Checks.template(x, 0, 0, 3, 0);
        int[] sizes = {0, 255, 256};
        for (int each : sizes) {
            x.packet(0, 1, 1, 1, each, true);
        }
        for (int i = 0; i < 6; i++) {
            x.packet(0, 1, 1, 1, 9999, false);
        }
        x.packet(0, 1, 1, 1, 5541, true);
        for (int i = 0; i < 6; i++) {
            x.packet(0, 1, 1, 1, 9999, false);
        }
        x.packet(0, 1, 1, 1, 5542, true);
        x.report(0);
        Checks.due("bytes", "0 0 1 0 1 5 0 1 0 1 255 2 1 0 2 255 255 3 1 0 0", Checks.bytes(x, 0));
    }

    private static void aReportHoldsSixtyFourBytes() {
        FlowShelf x = new FlowShelf();
        Checks.template(x, 0, 0, 3, 3);
        Checks.finished(x, 0, 20);
        Checks.due("first", 0, x.report(0));
        Checks.due("19 records of 3 bytes are just 64", 64, x.size(0));
        Checks.due("records", 19, x.byteOf(0, 5));
        Checks.due("one is left", "19 0 0 0 1 0 0 3", Checks.flow(x, 0, 0));
        x.report(0);
        Checks.due("the next has the next place", "0 0 1 0 1 1 19 0 0 0", Checks.bytes(x, 1));
        x.withdraw(0, 0);
        Checks.template(x, 0, 0, 3, 4);
        Checks.finished(x, 0, 20);
        x.report(0);
        Checks.due("14 records of 4 bytes", 63, x.size(2));
        Checks.due("place", 20, x.byteOf(2, 6));
        Checks.due("left", 6, x.count(0, 3));
        Checks.due("written", 34, x.count(0, 4));
    }

    private static void variableRecordsAreMeasuredOneByOne() {
        FlowShelf x = new FlowShelf();
        Checks.template(x, 0, 0, 0, 4, 1, 4, 2, 4, 3, 0, 4, 4, 5, 4);
        // Each record has 20 bytes and 2 or 3: 7 + 22 + 23 is 52, and the third one is too much.
        x.packet(0, 1, 1, 1, 255, true);
        x.packet(0, 1, 1, 1, 256, true);
        x.packet(0, 1, 1, 1, 1, true);
        x.report(0);
        Checks.due("two", 2, x.byteOf(0, 5));
        Checks.due("bytes", 52, x.size(0));

        FlowShelf y = new FlowShelf();
        Checks.template(y, 0, 0, 3, 0, 0, 4, 1, 4, 2, 4, 4, 4);
        // 16 bytes and 2, 2, 3: 7 + 18 + 18 + 19 is 62; a fourth that is small would not fit either.
        y.packet(0, 1, 1, 1, 5, true);
        y.packet(0, 1, 1, 1, 5, true);
        y.packet(0, 1, 1, 1, 500, true);
        y.packet(0, 1, 1, 1, 5, true);
        y.report(0);
        Checks.due("three", 3, y.byteOf(0, 5));
        Checks.due("bytes", 62, y.size(0));

        FlowShelf z = new FlowShelf();
        Checks.template(z, 0, 0, 3, 0, 0, 4, 1, 4, 2, 4, 4, 4, 7, 1);
        // 17 bytes and 2, 2, 3: 7 + 19 + 19 + 20 is one too much, and the fourth, that would fit, waits behind it.
        z.packet(0, 1, 1, 1, 5, true);
        z.packet(0, 1, 1, 1, 5, true);
        z.packet(0, 1, 1, 1, 500, true);
        z.packet(0, 1, 1, 1, 6, true);
        z.report(0);
        Checks.due("two", 2, z.byteOf(0, 5));
        Checks.due("the third is the first now", 500, z.ended(0, 0, 3));
        Checks.due("the fourth is behind it", 6, z.ended(0, 1, 3));
        z.packet(0, 1, 1, 1, 7, true);
        z.report(0);
        Checks.due("two again", 2, z.byteOf(1, 5));
        Checks.due("20 and 19 bytes", 46, z.size(1));
    }

    private static void theTemplateSealedLastIsUsed() {
        FlowShelf x = new FlowShelf();
        x.field(0, 0, 0, 1);
        Checks.template(x, 0, 2, 0, 1);
        Checks.template(x, 0, 1, 0, 1);
        x.seal(0, 0);
        Checks.due("sealed last, not drafted last", 0, numberUsed(x));
        x.withdraw(0, 0);
        Checks.due("the one before", 1, numberUsed(x));
        x.withdraw(0, 2);
        Checks.template(x, 0, 2, 1, 1);
        Checks.due("sealed again", 2, numberUsed(x));
        Checks.due("revision 2", 2, x.byteOf(2, 4));
        x.withdraw(0, 1);
        Checks.due("still", 2, numberUsed(x));
        x.withdraw(0, 2);
        x.packet(0, 1, 1, 1, 1, true);
        Checks.state("none", () -> x.report(0));
        Checks.template(x, 1, 0, 0, 1);
        Checks.state("the other's does not count", () -> x.report(0));
    }

    private static int numberUsed(FlowShelf x) {
        x.packet(0, 1, 1, 1, 1, true);
        return x.byteOf(x.report(0), 3);
    }

    private static void tellWritesTheSampler() {
        FlowShelf x = new FlowShelf();
        Checks.due("number", 0, x.tell(0));
        x.sampler(0, 7);
        Checks.due("number", 1, x.tell(0));
        Checks.due("number", 2, x.tell(1));
        x.restart(0);
        x.sampler(0, 9);
        Checks.due("number", 3, x.tell(0));
        Checks.due("first", "0 0 2 0 1", Checks.bytes(x, 0));
        Checks.due("second", "0 0 2 1 7", Checks.bytes(x, 1));
        Checks.due("the other's", "1 0 2 0 1", Checks.bytes(x, 2));
        Checks.due("of the next epoch", "0 1 2 0 9", Checks.bytes(x, 3));
    }

    private static void pokeChangesOneByte() {
        FlowShelf x = new FlowShelf();
        x.tell(0);
        x.tell(0);
        x.poke(0, 0, 255);
        x.poke(0, 4, 0);
        Checks.due("poked", "255 0 2 0 0", Checks.bytes(x, 0));
        Checks.due("the other stays", "0 0 2 1 1", Checks.bytes(x, 1));
        Checks.argument("v 256", () -> x.poke(0, 0, 256));
        Checks.argument("v -1", () -> x.poke(0, 0, -1));
        Checks.index("byte 5", () -> x.poke(0, 5, 1));
        Checks.index("byte -1", () -> x.poke(0, -1, 1));
        Checks.index("report 2", () -> x.poke(2, 0, 1));
        Checks.index("report -1", () -> x.poke(-1, 0, 1));
        Checks.index("both wrong", () -> x.poke(0, 5, 256));
        Checks.due("refused pokes change nothing", "255 0 2 0 0", Checks.bytes(x, 0));
        Checks.due("what is told next", "0 0 2 2 1", Checks.bytes(x, x.tell(0)));
    }
}
