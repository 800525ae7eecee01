/** Promises 1 to 6: a new object, packet, tick, flush, sampler, ended. */
public final class WatchTest {
    public static void main(String[] args) {
        packetsOfOneKeyAreOneFlow();
        theSeventhFlowPutsOneOut();
        ofFlowsOfOneTickTheFirstIsPutOut();
        ticksEndIdleFlows();
        ticksEndOldFlows();
        idleGoesBeforeOld();
        flushEndsAllInOrder();
        samplerTakesEveryNth();
        Checks.close();
    }

    private static void packetsOfOneKeyAreOneFlow() {
        FlowShelf x = new FlowShelf();
        x.tick(0, 3);
        Checks.due("packet", true, x.packet(0, 255, 0, 7, 9999, false));
        x.tick(0, 4);
        x.packet(0, 255, 0, 7, 0, false);
        x.packet(0, 255, 0, 8, 5, false);
        x.packet(0, 255, 1, 7, 6, false);
        x.packet(0, 254, 0, 7, 7, false);
        x.packet(1, 255, 0, 7, 8, true);
        Checks.due("flows by key", 4, x.count(0, 2));
        x.tick(0, 1);
        x.packet(0, 255, 0, 7, 2, true);
        Checks.due("the finished flow", "255 0 7 10001 3 3 8 3", Checks.flow(x, 0, 0));
        Checks.due("cache behind the finish", 3, x.count(0, 2));
        Checks.due("the other exporter's flow", "255 0 7 8 1 0 0 3", Checks.flow(x, 1, 0));
        x.packet(0, 255, 0, 7, 1, true);
        Checks.due("a finished key begins anew", "255 0 7 1 1 8 8 3", Checks.flow(x, 0, 1));
    }

    private static void theSeventhFlowPutsOneOut() {
        FlowShelf x = new FlowShelf();
        for (int i = 0; i < 6; i++) {
            x.packet(0, i, 0, 0, i, false);
        }
        x.tick(0, 1);
        x.packet(0, 0, 0, 0, 1, false);
        x.packet(0, 2, 0, 0, 1, false);
        x.packet(0, 6, 0, 0, 1, false);
        Checks.due("put out: the first of the oldest", "1 0 0 1 1 0 1 4", Checks.flow(x, 0, 0));
        x.packet(0, 7, 0, 0, 1, true);
        Checks.due("put out before a finish", "3 0 0 3 1 0 1 4", Checks.flow(x, 0, 1));
        Checks.due("the finish behind it", "7 0 0 1 1 1 1 3", Checks.flow(x, 0, 2));
        Checks.due("5 are left", 5, x.count(0, 2));
        x.packet(0, 8, 0, 0, 1, false);
        Checks.due("the sixth puts none out", 3, x.count(0, 3));
        x.packet(0, 0, 0, 0, 1, false);
        Checks.due("a known key puts none out", 3, x.count(0, 3));
    }

    private static void ofFlowsOfOneTickTheFirstIsPutOut() {
        FlowShelf x = new FlowShelf();
        for (int i = 0; i < 8; i++) {
            x.packet(0, i, 0, 0, i, false);
        }
        Checks.due("the first", "0 0 0 0 1 0 0 4", Checks.flow(x, 0, 0));
        Checks.due("the second", "1 0 0 1 1 0 0 4", Checks.flow(x, 0, 1));
    }

    private static void ticksEndIdleFlows() {
        FlowShelf x = new FlowShelf();
        x.packet(0, 1, 0, 0, 1, false);
        x.packet(0, 2, 0, 0, 1, false);
        Checks.due("5 ticks", 0, x.tick(0, 5));
        x.packet(0, 1, 0, 0, 1, false);
        Checks.due("9 ticks more", 0, x.tick(0, 9));
        Checks.due("the 15th", 1, x.tick(0, 1));
        Checks.due("idle", "2 0 0 1 1 0 15 1", Checks.flow(x, 0, 0));
        Checks.due("100 ticks", 1, x.tick(0, 100));
        Checks.due("idle at its own tick", "1 0 0 2 2 0 20 1", Checks.flow(x, 0, 1));
        Checks.due("clock", 115, x.count(0, 0));
        Checks.due("the other clock", 0, x.count(1, 0));
    }

    private static void ticksEndOldFlows() {
        FlowShelf x = new FlowShelf();
        x.tick(1, 7);
        x.packet(1, 1, 0, 0, 1, false);
        for (int i = 0; i < 4; i++) {
            x.tick(1, 14);
            x.packet(1, 1, 0, 0, 1, false);
        }
        Checks.due("59 ticks", 0, x.tick(1, 3));
        Checks.due("60 ticks", 1, x.tick(1, 1));
        Checks.due("old", "1 0 0 5 5 7 67 2", Checks.flow(x, 1, 0));
    }

    private static void idleGoesBeforeOld() {
        FlowShelf x = new FlowShelf();
        x.packet(0, 1, 0, 0, 1, false);
        x.packet(0, 2, 0, 0, 1, false);
        for (int i = 0; i < 3; i++) {
            x.tick(0, 14);
            x.packet(0, 1, 0, 0, 1, false);
            x.packet(0, 2, 0, 0, 1, false);
        }
        x.tick(0, 3);
        x.packet(0, 1, 0, 0, 1, false);
        x.packet(0, 2, 0, 0, 1, false);
        x.packet(0, 3, 0, 0, 1, false);
        x.tick(0, 1);
        x.packet(0, 2, 0, 0, 1, false);
        Checks.due("both end and one more", 3, x.tick(0, 14));
        Checks.due("15 and 60 ticks ago is idle", "1 0 0 5 5 0 60 1", Checks.flow(x, 0, 0));
        Checks.due("14 and 60 ticks ago is old", "2 0 0 6 6 0 60 2", Checks.flow(x, 0, 1));
        Checks.due("in the cache's order", "3 0 0 1 1 45 60 1", Checks.flow(x, 0, 2));
    }

    private static void flushEndsAllInOrder() {
        FlowShelf x = new FlowShelf();
        Checks.due("nothing to flush", 0, x.flush(0));
        x.packet(0, 4, 0, 0, 1, false);
        x.packet(0, 1, 0, 0, 1, false);
        x.packet(1, 9, 0, 0, 1, false);
        x.tick(0, 2);
        x.packet(0, 4, 0, 0, 1, false);
        Checks.due("flush", 2, x.flush(0));
        Checks.due("flushed first", "4 0 0 2 2 0 2 5", Checks.flow(x, 0, 0));
        Checks.due("flushed second", "1 0 0 1 1 0 2 5", Checks.flow(x, 0, 1));
        Checks.due("cache", 0, x.count(0, 2));
        Checks.due("the other cache", 1, x.count(1, 2));
        Checks.argument("flush of 2", () -> x.flush(2));
        Checks.argument("flush of -1", () -> x.flush(-1));
    }

    private static void samplerTakesEveryNth() {
        FlowShelf x = new FlowShelf();
        x.sampler(0, 3);
        for (int i = 0; i < 9; i++) {
            Checks.due("of three, packet " + i, i % 3 == 0, x.packet(0, 1, 1, 1, 10, i == 8));
        }
        Checks.due("not sampled, not finished", 0, x.count(0, 3));
        Checks.due("the other's sampler", true, x.packet(1, 1, 1, 1, 1, false));
        Checks.due("and again", true, x.packet(1, 1, 1, 1, 1, false));
        x.packet(0, 1, 1, 1, 10, false);
        x.sampler(0, 9);
        for (int i = 0; i < 10; i++) {
            Checks.due("of nine, packet " + i, i % 9 == 0, x.packet(0, 1, 1, 1, 10, false));
        }
        x.flush(0);
        Checks.due("only the sampled ones count", "1 1 1 60 6 0 0 5", Checks.flow(x, 0, 0));
        x.sampler(0, 2);
        x.packet(0, 1, 1, 1, 1, false);
        x.sampler(0, 1);
        Checks.due("of one", true, x.packet(0, 1, 1, 1, 1, false));
        Checks.due("of one, each", true, x.packet(0, 1, 1, 1, 1, false));
        x.sampler(0, 2);
        x.packet(0, 1, 1, 1, 1, false);
        Checks.argument("sampler 0", () -> x.sampler(0, 0));
        Checks.argument("sampler 10", () -> x.sampler(0, 10));
        Checks.argument("sampler -1", () -> x.sampler(0, -1));
        Checks.argument("sampler of 2", () -> x.sampler(2, 1));
        Checks.argument("sampler of -1", () -> x.sampler(-1, 1));
        Checks.due("a refused one changes nothing", false, x.packet(0, 1, 1, 1, 1, false));
    }
}
