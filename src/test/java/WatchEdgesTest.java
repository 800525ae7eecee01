/** Promises 1 to 6 at their edges: a test of its own for each sentence that names one. */
public final class WatchEdgesTest {
    private static final int[] NO_BYTE = {-1, 256, Integer.MIN_VALUE, Integer.MAX_VALUE};

    public static void main(String[] args) {
        nothingWasWatchedReportedOrHeard();
        packetsNeedAnExporter();
        theSourceIsAByte();
        theTargetIsAByte();
        theServiceIsAByte();
        bytesEndAt9999();
        twentyFlowsMayBeEnded();
        twentyFlowsMayBeInTheCacheOrEnded();
        theTwentiethMayPutOneOut();
        twentyFlowsRefuseWhateverThePacketIs();
        aPacketRefusedForTwentyFlowsDoesNothing();
        placeForFlowsComesBack();
        theCounterGoesModuloN();
        whatIsNotSampledDoesNoMore();
        theCacheHoldsSix();
        theOldestIsPutOut();
        ofSeveralOldestTheFirstIsPutOut();
        aNewFlowIsTheLastInTheCache();
        aFinishEndsItsFlowThen();
        aFinishMayPutOneOut();
        idleIsFifteenTicksAgo();
        oldIsSixtyTicksAgo();
        idleGoesBeforeOld();
        endedFlowsAreInTheirOrder();
        ticksTellHowManyEnded();
        ticksAreOneToHundred();
        ticksNeedAnExporter();
        flushTakesNoneToSix();
        flushNeedsAnExporter();
        samplersAreOneToNine();
        aSamplerBeginsAtZero();
        samplersNeedAnExporter();
        endedNeedsAnExporterAndAField();
        endedNeedsAFlow();
        anObjectIsGoodForAllItsCalls();
        Checks.close();
    }

    private static void nothingWasWatchedReportedOrHeard() {
        Checks.sentence("1: Nothing was watched, reported, or heard");
        FlowShelf x = new FlowShelf();
        for (int e = 0; e < 2; e++) {
            int exporter = e;
            Checks.due("counts", "0 0 0 0 0 0 0 0 0 0", Checks.counts(x, e));
            Checks.due("flush", 0, x.flush(e));
            Checks.due("total", 0, x.total(e, 0, 0, 0));
            Checks.index("ended", () -> x.ended(exporter, 0, 0));
            Checks.state("report", () -> x.report(exporter));
            for (int t = 0; t < 3; t++) {
                int template = t;
                Checks.state("seal", () -> x.seal(exporter, template));
                Checks.state("withdraw", () -> x.withdraw(exporter, template));
                Checks.state("announce", () -> x.announce(exporter, template));
            }
        }
        Checks.due("size", -1, x.size(0));
        Checks.index("byteOf", () -> x.byteOf(0, 0));
        Checks.index("poke", () -> x.poke(0, 0, 0));
        Checks.index("hear", () -> x.hear(0));
        Checks.due("rows", 0, x.rows());
        Checks.index("row", () -> x.row(0, 0));
        Checks.index("other", () -> x.other(0));
    }

    private static void packetsNeedAnExporter() {
        Checks.sentence("2: there is no such exporter");
        FlowShelf x = new FlowShelf();
        for (int e : Checks.NO_EXPORTER) {
            Checks.argument("packet of " + e, () -> x.packet(e, 1, 2, 3, 4, false));
        }
        Checks.due("packet of 0", true, x.packet(0, 1, 2, 3, 4, false));
        Checks.due("packet of 1", true, x.packet(1, 1, 2, 3, 4, false));
        Checks.due("flows of 0", 1, x.count(0, 2));
        Checks.due("flows of 1", 1, x.count(1, 2));
    }

    private static void theSourceIsAByte() {
        Checks.sentence("2: a part of the key (the source) is not 0 .. 255");
        FlowShelf x = new FlowShelf();
        for (int wrong : NO_BYTE) {
            Checks.argument("source " + wrong, () -> x.packet(0, wrong, 2, 3, 4, true));
        }
        x.packet(0, 0, 2, 3, 4, true);
        x.packet(0, 255, 2, 3, 4, true);
        Checks.due("only the two", 2, x.count(0, 3));
        Checks.due("source 0", "0 2 3 4 1 0 0 3", Checks.flow(x, 0, 0));
        Checks.due("source 255", "255 2 3 4 1 0 0 3", Checks.flow(x, 0, 1));
    }

    private static void theTargetIsAByte() {
        Checks.sentence("2: a part of the key (the target) is not 0 .. 255");
        FlowShelf x = new FlowShelf();
        for (int wrong : NO_BYTE) {
            Checks.argument("target " + wrong, () -> x.packet(0, 1, wrong, 3, 4, true));
        }
        x.packet(0, 1, 0, 3, 4, true);
        x.packet(0, 1, 255, 3, 4, true);
        Checks.due("only the two", 2, x.count(0, 3));
        Checks.due("target 0", "1 0 3 4 1 0 0 3", Checks.flow(x, 0, 0));
        Checks.due("target 255", "1 255 3 4 1 0 0 3", Checks.flow(x, 0, 1));
    }

    private static void theServiceIsAByte() {
        Checks.sentence("2: a part of the key (the service) is not 0 .. 255");
        FlowShelf x = new FlowShelf();
        for (int wrong : NO_BYTE) {
            Checks.argument("service " + wrong, () -> x.packet(0, 1, 2, wrong, 4, true));
        }
        x.packet(0, 1, 2, 0, 4, true);
        x.packet(0, 1, 2, 255, 4, true);
        Checks.due("only the two", 2, x.count(0, 3));
        Checks.due("service 0", "1 2 0 4 1 0 0 3", Checks.flow(x, 0, 0));
        Checks.due("service 255", "1 2 255 4 1 0 0 3", Checks.flow(x, 0, 1));
    }

    private static void bytesEndAt9999() {
        Checks.sentence("2: bytes not 0 .. 9999");
        FlowShelf x = new FlowShelf();
        x.sampler(0, 2);
        for (int wrong : new int[] {-1, 10000, Integer.MIN_VALUE, Integer.MAX_VALUE}) {
            Checks.argument("bytes " + wrong, () -> x.packet(0, 1, 2, 3, wrong, true));
        }
        Checks.due("0, and the refused ones were not counted", true, x.packet(0, 1, 2, 3, 0, true));
        x.packet(0, 1, 2, 3, 1, true);
        Checks.due("9999", true, x.packet(0, 1, 2, 3, 9999, true));
        Checks.due("of 0 bytes", "1 2 3 0 1 0 0 3", Checks.flow(x, 0, 0));
        Checks.due("of 9999 bytes", "1 2 3 9999 1 0 0 3", Checks.flow(x, 0, 1));
    }

    private static void twentyFlowsMayBeEnded() {
        Checks.sentence("2: 20 flows of this exporter are ended");
        FlowShelf x = new FlowShelf();
        Checks.finished(x, 0, 19);
        Checks.due("with 19", true, x.packet(0, 1, 1, 1, 1, true));
        Checks.state("with 20", () -> x.packet(0, 2, 1, 1, 1, true));
        Checks.due("20 are ended", 20, x.count(0, 3));
        Checks.due("of the other exporter none is", true, x.packet(1, 2, 1, 1, 1, true));
    }

    private static void twentyFlowsMayBeInTheCacheOrEnded() {
        Checks.sentence("2: 20 flows of this exporter are in the cache or ended");
        for (int cached = 1; cached <= 6; cached++) {
            FlowShelf x = new FlowShelf();
            Checks.finished(x, 0, 20 - cached);
            for (int i = 0; i < cached; i++) {
                Checks.due("with " + (20 - cached + i), true, x.packet(0, i, 1, 1, 1, false));
            }
            Checks.state("with " + cached + " in the cache", () -> x.packet(0, 9, 1, 1, 1, false));
            Checks.due("cache", cached, x.count(0, 2));
            Checks.due("ended", 20 - cached, x.count(0, 3));
        }
    }

    private static void theTwentiethMayPutOneOut() {
        Checks.sentence("2: 20 flows are there (19 are not, though the next packet puts one out)");
        FlowShelf x = new FlowShelf();
        Checks.finished(x, 0, 13);
        for (int i = 0; i < 6; i++) {
            x.packet(0, i, 1, 1, 1, false);
        }
        Checks.due("with 19", true, x.packet(0, 6, 1, 1, 1, true));
        Checks.due("put out and finished", 15, x.count(0, 3));
        Checks.due("put out", 4, x.ended(0, 13, 7));
        Checks.due("finished", 3, x.ended(0, 14, 7));
        Checks.state("with 20", () -> x.packet(0, 6, 1, 1, 1, true));
    }

    private static void twentyFlowsRefuseWhateverThePacketIs() {
        Checks.sentence("2: 20 flows (whatever the packet is)");
        FlowShelf x = withTwenty();
        Checks.state("of a new key", () -> x.packet(0, 9, 9, 9, 1, false));
        Checks.state("of a key in the cache", () -> x.packet(0, 5, 1, 1, 1, false));
        Checks.state("the finish of a flow in the cache", () -> x.packet(0, 5, 1, 1, 1, true));
        x.sampler(0, 9);
        Checks.state("one that would be sampled", () -> x.packet(0, 5, 1, 1, 1, false));
        Checks.argument("a wrong one is a wrong one first", () -> x.packet(0, 5, 1, 1, 10000, false));
        Checks.argument("of a wrong exporter", () -> x.packet(2, 5, 1, 1, 1, false));
        FlowShelf y = new FlowShelf();
        y.sampler(0, 9);
        y.packet(0, 1, 1, 1, 1, false);
        for (int i = 0; i < 19; i++) {
            y.flush(0);
            y.sampler(0, 9);
            y.packet(0, 1, 1, 1, 1, false);
        }
        Checks.due("20 are there", 20, y.count(0, 2) + y.count(0, 3));
        Checks.state("one that would not be sampled", () -> y.packet(0, 1, 1, 1, 1, false));
    }

    /** 19 ended flows and one, of the key 5 1 1, in the cache. */
    private static FlowShelf withTwenty() {
        FlowShelf x = new FlowShelf();
        Checks.finished(x, 0, 19);
        x.packet(0, 5, 1, 1, 1, false);
        return x;
    }

    private static void aPacketRefusedForTwentyFlowsDoesNothing() {
        Checks.sentence("2: 20 flows (a refused packet is none: no counter, no bytes, no latest packet)");
        FlowShelf x = withTwenty();
        x.tick(0, 14);
        x.sampler(0, 2);
        Checks.state("refused", () -> x.packet(0, 5, 1, 1, 1, false));
        Checks.due("its flow is idle at its time", 1, x.tick(0, 1));
        Checks.due("and had one packet", "5 1 1 1 1 0 15 1", Checks.flow(x, 0, 19));
        Checks.template(x, 0, 0, 0, 1);
        x.report(0);
        Checks.due("the counter is still 0", true, x.packet(0, 5, 1, 1, 1, false));
        Checks.due("and 1 behind that", false, x.packet(0, 5, 1, 1, 1, false));
    }

    private static void placeForFlowsComesBack() {
        Checks.sentence("2: 20 flows are in the cache or ended (those that were reported are not)");
        FlowShelf x = withTwenty();
        Checks.due("a flush leaves 20", 1, x.flush(0));
        Checks.state("with 20", () -> x.packet(0, 5, 1, 1, 1, false));
        Checks.template(x, 0, 0, 0, 4, 1, 4, 2, 4, 3, 4, 4, 4, 5, 4, 6, 4, 7, 4);
        x.report(0);
        Checks.due("one went", 19, x.count(0, 3));
        Checks.due("with 19", true, x.packet(0, 5, 1, 1, 1, false));
        Checks.state("with 20 again", () -> x.packet(0, 5, 1, 1, 1, false));
        x.restart(0);
        Checks.due("in a new epoch", true, x.packet(0, 5, 1, 1, 1, false));
    }

    private static void theCounterGoesModuloN() {
        Checks.sentence("A packet is SAMPLED if the counter is 0; behind each packet it is one more, modulo n");
        for (int n = 1; n <= 9; n++) {
            FlowShelf x = new FlowShelf();
            x.sampler(1, n);
            for (int i = 0; i < 3 * n + 1; i++) {
                Checks.due("packet " + i + " of n " + n, i % n == 0, x.packet(1, 1, 1, 1, 1, false));
            }
            x.flush(1);
            Checks.due("sampled ones", 4, x.ended(1, 0, 4));
        }
        FlowShelf x = new FlowShelf();
        Checks.due("n is 1 at first", true, x.packet(0, 1, 1, 1, 1, false) && x.packet(0, 1, 1, 1, 1, false));
    }

    private static void whatIsNotSampledDoesNoMore() {
        Checks.sentence("A packet that is not sampled does no more");
        FlowShelf x = new FlowShelf();
        x.packet(0, 1, 1, 1, 7, false);
        x.tick(0, 14);
        x.sampler(0, 2);
        x.packet(0, 9, 1, 1, 1, false);
        Checks.due("of a flow in the cache", false, x.packet(0, 1, 1, 1, 100, false));
        x.packet(0, 9, 1, 1, 1, false);
        Checks.due("the finish of it", false, x.packet(0, 1, 1, 1, 100, true));
        x.packet(0, 9, 1, 1, 1, false);
        Checks.due("of a new key", false, x.packet(0, 2, 1, 1, 100, false));
        Checks.due("no flow began or ended", 2, x.count(0, 2));
        Checks.due("the flow is idle at its time", 1, x.tick(0, 1));
        Checks.due("with the sampled packet alone", "1 1 1 7 1 0 15 1", Checks.flow(x, 0, 0));

        FlowShelf full = new FlowShelf();
        for (int i = 0; i < 6; i++) {
            full.packet(0, i, 1, 1, 1, false);
        }
        full.sampler(0, 2);
        full.packet(0, 5, 1, 1, 1, false);
        Checks.due("of a new key, when 6 are there", false, full.packet(0, 9, 1, 1, 1, false));
        Checks.due("none was put out", 0, full.count(0, 3));
    }

    private static void theCacheHoldsSix() {
        Checks.sentence("when 6 are there, one is put out before");
        FlowShelf x = new FlowShelf();
        for (int i = 1; i <= 6; i++) {
            x.packet(0, i, 0, 0, 1, false);
            Checks.due("in the cache", i, x.count(0, 2));
            Checks.due("put out", 0, x.count(0, 3));
        }
        x.packet(0, 6, 0, 0, 1, false);
        x.packet(0, 1, 0, 0, 1, false);
        Checks.due("a key that is there puts none out", 0, x.count(0, 3));
        x.packet(0, 7, 0, 0, 1, false);
        Checks.due("the seventh puts one out", 1, x.count(0, 3));
        Checks.due("six are there still", 6, x.count(0, 2));
        Checks.due("it was put out", 4, x.ended(0, 0, 7));
        for (int i = 1; i <= 6; i++) {
            x.packet(1, i, 0, 0, 1, false);
        }
        Checks.due("each exporter has its six", 0, x.count(1, 3));
    }

    private static void theOldestIsPutOut() {
        Checks.sentence("the one whose latest packet is the oldest is put out");
        for (int oldest = 0; oldest < 6; oldest++) {
            FlowShelf x = new FlowShelf();
            for (int i = 0; i < 6; i++) {
                x.packet(0, i, 0, 0, 1, false);
            }
            x.tick(0, 1);
            for (int i = 5; i >= 0; i--) {
                if (i != oldest) {
                    x.packet(0, i, 0, 0, 1, false);
                }
            }
            x.tick(0, 1);
            x.packet(0, 6, 0, 0, 1, false);
            Checks.due("put out", oldest + " 0 0 1 1 0 2 4", Checks.flow(x, 0, 0));
        }
    }

    private static void ofSeveralOldestTheFirstIsPutOut() {
        Checks.sentence("of several the first one");
        FlowShelf x = new FlowShelf();
        for (int i = 0; i < 6; i++) {
            x.packet(0, 50 - i, 0, 0, 1, false);
        }
        // Packets of the same tick: the first one's is not newer for coming behind the others.
        x.packet(0, 50, 0, 0, 1, false);
        x.packet(0, 1, 0, 0, 1, false);
        Checks.due("the first", "50 0 0 2 2 0 0 4", Checks.flow(x, 0, 0));
        x.packet(0, 2, 0, 0, 1, false);
        Checks.due("the second", "49 0 0 1 1 0 0 4", Checks.flow(x, 0, 1));
    }

    private static void aNewFlowIsTheLastInTheCache() {
        Checks.sentence("a new one begins, as the last in the cache");
        FlowShelf x = new FlowShelf();
        for (int i = 0; i < 6; i++) {
            x.packet(0, 9 - i, 0, 0, 1, false);
        }
        x.packet(0, 20, 0, 0, 1, false);
        Checks.due("flushed", 6, x.flush(0));
        int[] order = {9, 8, 7, 6, 5, 4, 20};
        for (int i = 0; i < order.length; i++) {
            Checks.due("ended " + i, order[i], x.ended(0, i, 0));
        }
    }

    private static void aFinishEndsItsFlowThen() {
        Checks.sentence("If the packet is the FINISH, its flow ends then");
        FlowShelf x = new FlowShelf();
        x.packet(0, 1, 2, 3, 10, true);
        Checks.due("a flow of one packet", "1 2 3 10 1 0 0 3", Checks.flow(x, 0, 0));
        x.packet(0, 1, 2, 3, 20, false);
        x.packet(0, 9, 9, 9, 1, false);
        x.tick(0, 14);
        x.packet(0, 1, 2, 3, 30, true);
        Checks.due("the finish counts too", "1 2 3 50 2 0 14 3", Checks.flow(x, 0, 1));
        Checks.due("the other flow stays", 1, x.count(0, 2));
        x.packet(0, 1, 2, 3, 40, false);
        Checks.due("its key begins anew", 2, x.count(0, 2));
    }

    private static void aFinishMayPutOneOut() {
        Checks.sentence("when 6 are there, one is put out before (though the new flow ends then)");
        FlowShelf x = new FlowShelf();
        for (int i = 0; i < 6; i++) {
            x.packet(0, i, 0, 0, 1, false);
        }
        x.packet(0, 5, 0, 0, 1, true);
        Checks.due("of a key that is there", "5 0 0 2 2 0 0 3", Checks.flow(x, 0, 0));
        x.packet(0, 6, 0, 0, 1, false);
        x.packet(0, 7, 0, 0, 1, true);
        Checks.due("of a new key: put out", "0 0 0 1 1 0 0 4", Checks.flow(x, 0, 1));
        Checks.due("of a new key: finished", "7 0 0 1 1 0 0 3", Checks.flow(x, 0, 2));
        Checks.due("five are left", 5, x.count(0, 2));
    }

    private static void idleIsFifteenTicksAgo() {
        Checks.sentence("end if their latest packet came 15 ticks ago (idle)");
        FlowShelf x = new FlowShelf();
        x.packet(0, 1, 0, 0, 1, false);
        x.packet(0, 2, 0, 0, 1, false);
        Checks.due("14 ticks", 0, x.tick(0, 14));
        x.packet(0, 2, 0, 0, 1, false);
        Checks.due("the 15th", 1, x.tick(0, 1));
        Checks.due("idle", "1 0 0 1 1 0 15 1", Checks.flow(x, 0, 0));
        Checks.due("14 ticks behind the later packet", 0, x.tick(0, 13));
        Checks.due("the 15th behind it", 1, x.tick(0, 1));
        Checks.due("idle later", "2 0 0 2 2 0 29 1", Checks.flow(x, 0, 1));
        Checks.due("the other exporter's ticks are its own", 0, x.count(1, 0));
    }

    private static void oldIsSixtyTicksAgo() {
        Checks.sentence("or, if not, if they began 60 ticks ago (old)");
        FlowShelf x = new FlowShelf();
        x.tick(0, 3);
        x.packet(0, 1, 0, 0, 1, false);
        for (int i = 0; i < 5; i++) {
            x.tick(0, 10);
            x.packet(0, 1, 0, 0, 1, false);
        }
        Checks.due("59 ticks", 0, x.tick(0, 9));
        x.packet(0, 1, 0, 0, 1, false);
        Checks.due("the 60th", 1, x.tick(0, 1));
        Checks.due("old, with a packet one tick ago", "1 0 0 7 7 3 63 2", Checks.flow(x, 0, 0));
    }

    private static void idleGoesBeforeOld() {
        Checks.sentence("or, if not (idle goes before old)");
        FlowShelf x = new FlowShelf();
        x.packet(0, 1, 0, 0, 1, false);
        for (int i = 0; i < 3; i++) {
            x.tick(0, 14);
            x.packet(0, 1, 0, 0, 1, false);
        }
        x.tick(0, 3);
        x.packet(0, 1, 0, 0, 1, false);
        Checks.due("59 and 14 ticks ago", 0, x.tick(0, 14));
        Checks.due("60 and 15 ticks ago", 1, x.tick(0, 1));
        Checks.due("idle", "1 0 0 5 5 0 60 1", Checks.flow(x, 0, 0));
    }

    private static void endedFlowsAreInTheirOrder() {
        Checks.sentence("At each tick the flows from the first one on; ended flows are in the order in which they ended");
        FlowShelf x = new FlowShelf();
        for (int i = 0; i < 4; i++) {
            x.packet(0, i, 0, 0, 1, false);
        }
        x.tick(0, 2);
        x.packet(0, 0, 0, 0, 1, false);
        x.packet(0, 2, 0, 0, 1, false);
        Checks.due("in one call", 4, x.tick(0, 100));
        Checks.due("of the earlier tick", "1 0 0 1 1 0 15 1", Checks.flow(x, 0, 0));
        Checks.due("of the earlier tick", "3 0 0 1 1 0 15 1", Checks.flow(x, 0, 1));
        Checks.due("of the later tick", "0 0 0 2 2 0 17 1", Checks.flow(x, 0, 2));
        Checks.due("of the later tick", "2 0 0 2 2 0 17 1", Checks.flow(x, 0, 3));
    }

    private static void ticksTellHowManyEnded() {
        Checks.sentence("3: n ticks: how many flows ended");
        for (int flows = 0; flows <= 6; flows++) {
            FlowShelf x = new FlowShelf();
            x.packet(0, 99, 0, 0, 1, true);
            for (int i = 0; i < flows; i++) {
                x.packet(0, i, 0, 0, 1, false);
            }
            Checks.due("14 ticks", 0, x.tick(0, 14));
            Checks.due("one tick", flows, x.tick(0, 1));
            Checks.due("the cache is empty", 0, x.count(0, 2));
            Checks.due("100 ticks more", 0, x.tick(0, 100));
            Checks.due("ended", flows + 1, x.count(0, 3));
        }
    }

    private static void ticksAreOneToHundred() {
        Checks.sentence("3: n is not 1 .. 100");
        FlowShelf x = new FlowShelf();
        x.packet(0, 1, 1, 1, 1, false);
        for (int wrong : new int[] {0, -1, 101, Integer.MIN_VALUE, Integer.MAX_VALUE}) {
            Checks.argument(wrong + " ticks", () -> x.tick(0, wrong));
        }
        Checks.due("no tick went", 0, x.count(0, 0));
        Checks.due("no flow ended", 1, x.count(0, 2));
        Checks.due("1 tick", 0, x.tick(0, 1));
        Checks.due("clock", 1, x.count(0, 0));
        Checks.due("100 ticks", 1, x.tick(0, 100));
        Checks.due("clock", 101, x.count(0, 0));
    }

    private static void ticksNeedAnExporter() {
        Checks.sentence("3: there is no such exporter");
        FlowShelf x = new FlowShelf();
        for (int e : Checks.NO_EXPORTER) {
            Checks.argument("tick of " + e, () -> x.tick(e, 1));
        }
        x.tick(0, 1);
        x.tick(1, 2);
        Checks.due("clock of 0", 1, x.count(0, 0));
        Checks.due("clock of 1", 2, x.count(1, 0));
    }

    private static void flushTakesNoneToSix() {
        Checks.sentence("4: All flows in the cache are flushed, from the first one on: how many");
        for (int flows = 0; flows <= 6; flows++) {
            FlowShelf x = new FlowShelf();
            for (int i = 0; i < flows; i++) {
                x.packet(0, 9 - i, 0, 0, 1, false);
            }
            x.tick(0, 1);
            Checks.due("flush", flows, x.flush(0));
            Checks.due("the cache is empty", 0, x.count(0, 2));
            Checks.due("ended", flows, x.count(0, 3));
            for (int i = 0; i < flows; i++) {
                Checks.due("ended " + i, (9 - i) + " 0 0 1 1 0 1 5", Checks.flow(x, 0, i));
            }
            Checks.due("again", 0, x.flush(0));
        }
    }

    private static void flushNeedsAnExporter() {
        Checks.sentence("4: there is no such exporter");
        FlowShelf x = new FlowShelf();
        x.packet(0, 1, 1, 1, 1, false);
        x.packet(1, 1, 1, 1, 1, false);
        for (int e : Checks.NO_EXPORTER) {
            Checks.argument("flush of " + e, () -> x.flush(e));
        }
        Checks.due("flush of 1", 1, x.flush(1));
        Checks.due("0 has its flow", 1, x.count(0, 2));
        Checks.due("flush of 0", 1, x.flush(0));
    }

    private static void samplersAreOneToNine() {
        Checks.sentence("5: n is not 1 .. 9");
        FlowShelf x = new FlowShelf();
        x.sampler(0, 9);
        x.packet(0, 1, 1, 1, 1, false);
        for (int wrong : new int[] {0, -1, 10, Integer.MIN_VALUE, Integer.MAX_VALUE}) {
            Checks.argument("sampler " + wrong, () -> x.sampler(0, wrong));
        }
        for (int i = 1; i < 9; i++) {
            Checks.due("neither n nor counter changed: " + i, false, x.packet(0, 1, 1, 1, 1, false));
        }
        Checks.due("the tenth", true, x.packet(0, 1, 1, 1, 1, false));
        x.sampler(0, 1);
        Checks.due("by 1", true, x.packet(0, 1, 1, 1, 1, false) && x.packet(0, 1, 1, 1, 1, false));
    }

    private static void aSamplerBeginsAtZero() {
        Checks.sentence("5: The sampler is n, its counter 0");
        FlowShelf x = new FlowShelf();
        x.sampler(0, 3);
        x.packet(0, 1, 1, 1, 1, false);
        x.packet(0, 1, 1, 1, 1, false);
        x.sampler(0, 3);
        Checks.due("of the same n", true, x.packet(0, 1, 1, 1, 1, false));
        Checks.due("then not", false, x.packet(0, 1, 1, 1, 1, false));
        x.sampler(0, 2);
        Checks.due("of another n", true, x.packet(0, 1, 1, 1, 1, false));
        Checks.due("then not", false, x.packet(0, 1, 1, 1, 1, false));
        Checks.due("then again", true, x.packet(0, 1, 1, 1, 1, false));
    }

    private static void samplersNeedAnExporter() {
        Checks.sentence("5: there is no such exporter");
        FlowShelf x = new FlowShelf();
        for (int e : Checks.NO_EXPORTER) {
            Checks.argument("sampler of " + e, () -> x.sampler(e, 2));
        }
        for (int e = 0; e < 2; e++) {
            Checks.due("sampled", true, x.packet(e, 1, 1, 1, 1, false));
            Checks.due("n is 1 still", true, x.packet(e, 1, 1, 1, 1, false));
            x.sampler(e, 2);
            x.packet(e, 1, 1, 1, 1, false);
            Checks.due("n is 2", false, x.packet(e, 1, 1, 1, 1, false));
        }
    }

    private static void endedNeedsAnExporterAndAField() {
        Checks.sentence("6: there is no such exporter or field");
        FlowShelf x = new FlowShelf();
        x.packet(0, 11, 12, 13, 14, true);
        x.packet(1, 21, 22, 23, 24, true);
        for (int e : Checks.NO_EXPORTER) {
            Checks.argument("ended of " + e, () -> x.ended(e, 0, 0));
        }
        for (int f : new int[] {-1, 8, Integer.MIN_VALUE, Integer.MAX_VALUE}) {
            Checks.argument("field " + f, () -> x.ended(0, 0, f));
            Checks.argument("field " + f + " of no flow", () -> x.ended(0, 1, f));
        }
        Checks.due("fields 0 to 7", "11 12 13 14 1 0 0 3", Checks.flow(x, 0, 0));
        Checks.due("fields 0 to 7", "21 22 23 24 1 0 0 3", Checks.flow(x, 1, 0));
    }

    private static void endedNeedsAFlow() {
        Checks.sentence("6: there is no such flow");
        FlowShelf x = new FlowShelf();
        x.packet(0, 1, 1, 1, 1, false);
        Checks.index("the one in the cache is not ended", () -> x.ended(0, 0, 0));
        x.flush(0);
        Checks.due("flow 0", 1, x.ended(0, 0, 0));
        Checks.index("flow 1 of 1", () -> x.ended(0, 1, 0));
        Checks.finished(x, 0, 19);
        Checks.due("flow 19", 18, x.ended(0, 19, 0));
        for (int i : new int[] {-1, 20, Integer.MIN_VALUE, Integer.MAX_VALUE}) {
            Checks.index("flow " + i, () -> x.ended(0, i, 0));
        }
        Checks.index("of the other exporter", () -> x.ended(1, 0, 0));
        Checks.template(x, 0, 0, 0, 1);
        x.report(0);
        Checks.index("reported flows are there no more", () -> x.ended(0, 0, 0));
    }

    private static void anObjectIsGoodForAllItsCalls() {
        Checks.sentence("An object is used for at most 512 calls");
        FlowShelf ticking = new FlowShelf();
        for (int i = 0; i < 511; i++) {
            ticking.tick(0, 100);
        }
        Checks.due("the 512th call", 51100, ticking.count(0, 0));
        FlowShelf full = new FlowShelf();
        for (int i = 0; i < 509; i++) {
            full.packet(0, 1, 1, 1, 9999, false);
        }
        full.flush(0);
        Checks.due("the 511th call", 509 * 9999, full.ended(0, 0, 3));
        Checks.due("the 512th call", 509, full.ended(0, 0, 4));
    }
}
