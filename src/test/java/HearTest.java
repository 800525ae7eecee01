/** Promise 17: hear. */
public final class HearTest {
    public static void main(String[] args) {
        kindsMayBePoked();
        recordsAreRead();
        badRecordsChangeNothing();
        heardPlacesAreHeardOnce();
        placesAreOfAnExporterAndAnEpoch();
        recordsWaitForTheirTemplate();
        theShelfKeepsBytes();
        theShelfDropsTheOldest();
        spoiltRecordsMakeNoRow();
        aKnownTemplateStays();
        knownTemplatesKeepBytes();
        twentyTemplatesAreKnown();
        eightyRowsAreKept();
        theShelfMayBeTooMuch();
        samplersAreNoted();
        Checks.close();
    }

    /** Pokes one byte, hears, and puts the byte back. */
    private static void bad(FlowShelf x, int report, int i, int v) {
        int was = x.byteOf(report, i);
        x.poke(report, i, v);
        String state = Checks.counts(x, 0) + Checks.counts(x, 1) + x.rows();
        Checks.argument("byte " + i + " of " + report + " is " + v, () -> x.hear(report));
        Checks.due("nothing happened", state, Checks.counts(x, 0) + Checks.counts(x, 1) + x.rows());
        x.poke(report, i, was);
    }

    private static void good(FlowShelf x, int report, int i, int v, int rows) {
        int was = x.byteOf(report, i);
        x.poke(report, i, v);
        Checks.due("byte " + i + " of " + report + " is " + v, rows, x.hear(report));
        x.poke(report, i, was);
    }

    private static void kindsMayBePoked() {
        Post p = new Post();
        p.bad("a sampler as a template", 0, 0, 0, 0, 1);
        p.bad("a sampler as records", 0, 0, 1, 0, 1);
        p.hears("one field, 3, of a variable length", 0, 0, 0, 0, 0, 1, 1, 3, 0);
        p.bad("the same bytes as one record at place 3", 0, 0, 1, 0, 1, 1, 3, 0);
        p.hears("as a record of another template", 0, 0, 0, 1, 0, 2, 1, 3, 0);
        Checks.due("on the shelf", 1, p.x.count(0, 6));
    }

    private static void recordsAreRead() {
        FlowShelf x = new FlowShelf();
        Checks.template(x, 0, 0, 3, 4, 0, 0, 6, 2);
        x.hear(x.announce(0, 0));
        x.tick(0, 100);
        x.tick(0, 100);
        x.tick(0, 100);
        x.packet(0, 9, 1, 1, 300, true);
        x.packet(0, 200, 1, 1, 0, true);
        int records = x.report(0);
        x.poke(records, 7, 255);
        Checks.due("two rows", 2, x.hear(records));
        Checks.due("unsigned, highest first", "9 -1 -1 " + (255L * 256 * 256 * 256 + 300) + " -1 -1 300 -1 0",
                Checks.row(x, 0));
        Checks.due("the second", "200 -1 -1 0 -1 -1 300 -1 0", Checks.row(x, 1));
    }

    private static void badRecordsChangeNothing() {
        FlowShelf x = new FlowShelf();
        Checks.template(x, 0, 0, 0, 2);
        x.hear(x.announce(0, 0));
        Checks.finished(x, 0, 3);
        int records = x.report(0);
        bad(x, records, 5, 2);
        bad(x, records, 5, 4);
        bad(x, records, 5, 1);
        Checks.due("the places were not heard", 3, x.hear(records));
        x.poke(records, 5, 4);
        Checks.due("bad, but heard before", 0, x.hear(records));
        x.withdraw(0, 0);
        Checks.template(x, 0, 0, 3, 3);
        x.hear(x.announce(0, 0));
        Checks.finished(x, 0, 20);
        int full = x.report(0);
        Checks.due("a report without a byte to spare", 64, x.size(full));
        bad(x, full, 5, 20);
        bad(x, full, 5, 18);
        Checks.due("is read", 19, x.hear(full));
    }

    private static void heardPlacesAreHeardOnce() {
        FlowShelf x = new FlowShelf();
        Checks.template(x, 0, 0, 0, 1);
        x.hear(x.announce(0, 0));
        Checks.finished(x, 0, 3);
        int records = x.report(0);
        x.poke(records, 6, 10);
        Checks.due("places 10 to 12", 3, x.hear(records));
        Checks.due("again", 0, x.hear(records));
        good(x, records, 6, 8, 0);
        good(x, records, 6, 12, 0);
        good(x, records, 6, 7, 3);
        good(x, records, 6, 13, 3);
        Checks.due("rows", 9, x.rows());
        x.poke(records, 3, 1);
        good(x, records, 6, 15, 0);
        Checks.due("by another template it is heard all the same", 0, x.count(0, 6));
        good(x, records, 6, 16, 0);
        Checks.due("a new one waits", 1, x.count(0, 6));
        good(x, records, 6, 18, 0);
        Checks.due("what waits was heard", 1, x.count(0, 6));
    }

    private static void placesAreOfAnExporterAndAnEpoch() {
        FlowShelf x = new FlowShelf();
        Checks.template(x, 0, 0, 0, 1);
        int template = x.announce(0, 0);
        Checks.finished(x, 0, 1);
        int records = x.report(0);
        for (int exporter = 0; exporter < 2; exporter++) {
            for (int epoch = 0; epoch <= 5; epoch++) {
                x.poke(template, 0, exporter);
                x.poke(template, 1, epoch);
                x.poke(records, 0, exporter);
                x.poke(records, 1, epoch);
                Checks.due("records come first", 0, x.hear(records));
                Checks.due("they wait", 1, x.count(exporter, 6));
                Checks.due("their template", 1, x.hear(template));
                Checks.due("the row's exporter", exporter, x.row(x.rows() - 1, 8));
                Checks.due("they are heard once", 0, x.hear(records));
            }
        }
        Checks.due("rows", 12, x.rows());
    }

    private static void recordsWaitForTheirTemplate() {
        FlowShelf x = new FlowShelf();
        Checks.template(x, 0, 0, 0, 1);
        int template = x.announce(0, 0);
        Checks.finished(x, 0, 2);
        int first = x.report(0);
        x.packet(0, 77, 0, 0, 0, true);
        int second = x.report(0);
        x.hear(second);
        x.poke(first, 4, 9);
        x.poke(first, 6, 50);
        x.hear(first);
        x.poke(first, 4, 1);
        x.poke(first, 6, 0);
        x.hear(first);
        Checks.due("three wait", 3, x.count(0, 6));
        good(x, template, 0, 1, 0);
        good(x, template, 1, 1, 0);
        good(x, template, 3, 1, 0);
        good(x, template, 4, 2, 0);
        Checks.due("three wait still", 3, x.count(0, 6));
        Checks.due("two of them are read", 3, x.hear(template));
        Checks.due("one waits", 1, x.count(0, 6));
        Checks.due("as they came", 77, x.row(0, 0));
        Checks.due("as they came", 0, x.row(1, 0));
        Checks.due("as they came", 1, x.row(2, 0));
        good(x, template, 4, 9, 2);
        Checks.due("none waits", 0, x.count(0, 6));
    }

    private static void theShelfKeepsBytes() {
        FlowShelf x = new FlowShelf();
        Checks.template(x, 0, 0, 0, 1);
        int template = x.announce(0, 0);
        x.packet(0, 5, 0, 0, 0, true);
        int records = x.report(0);
        x.hear(records);
        Checks.pokeAll(x, records, 1, 1, 1, 2, 2, 0, 99, 6);
        Checks.due("read as it was", 1, x.hear(template));
        Checks.due("its value", 5, x.row(0, 0));
        Checks.due("its exporter", 0, x.row(0, 8));
    }

    private static void theShelfDropsTheOldest() {
        FlowShelf x = new FlowShelf();
        Checks.template(x, 0, 0, 0, 1);
        int template = x.announce(0, 0);
        x.packet(0, 5, 0, 0, 0, true);
        int records = x.report(0);
        for (int place = 0; place < 6; place++) {
            x.poke(records, 0, place == 1 ? 1 : 0);
            x.poke(records, 6, place);
            x.poke(records, 7, 100 + place);
            x.hear(records);
        }
        Checks.due("dropped", 1, x.count(0, 7));
        Checks.due("on the shelf", 4, x.count(0, 6));
        Checks.due("of the other", 1, x.count(1, 6));
        x.poke(records, 6, 0);
        x.hear(records);
        Checks.due("what was dropped was heard", 1, x.count(0, 7));
        x.poke(records, 6, 20);
        x.hear(records);
        Checks.due("dropped of the other", 1, x.count(1, 7));
        Checks.due("dropped", 1, x.count(0, 7));
        Checks.due("of the other", 0, x.count(1, 6));
        Checks.due("the rest", 5, x.hear(template));
        Checks.due("the oldest that stayed", 102, x.row(0, 0));
        Checks.due("the shelf is empty", 0, x.count(0, 6));
    }

    private static void spoiltRecordsMakeNoRow() {
        FlowShelf x = new FlowShelf();
        Checks.template(x, 0, 0, 0, 2);
        int template = x.announce(0, 0);
        Checks.finished(x, 0, 2);
        int records = x.report(0);
        x.poke(records, 5, 3);
        x.hear(records);
        x.poke(records, 5, 1);
        x.poke(records, 6, 10);
        x.hear(records);
        x.poke(records, 5, 2);
        x.poke(records, 6, 20);
        x.hear(records);
        x.poke(records, 0, 1);
        x.hear(records);
        Checks.due("only the good one's rows", 2, x.hear(template));
        Checks.due("spoilt", 2, x.count(0, 8));
        Checks.due("none of the other", 0, x.count(1, 8));
        Checks.due("the shelf", 0, x.count(0, 6));
        Checks.due("the other's", 1, x.count(1, 6));
        Checks.due("rows", 2, x.rows());
        Checks.due("spoilt places were heard", 7 + 9, x.count(0, 5));
        Checks.pokeAll(x, records, 0, 0, 1, 0, 1, 2, 0);
        Checks.due("and are not heard again", 0, x.hear(records));
    }

    private static void aKnownTemplateStays() {
        FlowShelf x = new FlowShelf();
        Checks.template(x, 0, 0, 0, 1);
        int template = x.announce(0, 0);
        x.hear(template);
        x.poke(template, 6, 1);
        Checks.due("known", 0, x.hear(template));
        x.packet(0, 5, 6, 0, 0, true);
        int records = x.report(0);
        Checks.due("read", 1, x.hear(records));
        Checks.due("by the template heard first", "5 -1 -1 -1 -1 -1 -1 -1 0", Checks.row(x, 0));
        bad(x, template, 6, 8);
    }

    private static void knownTemplatesKeepBytes() {
        FlowShelf x = new FlowShelf();
        Checks.template(x, 0, 0, 0, 1);
        int template = x.announce(0, 0);
        x.hear(template);
        Checks.pokeAll(x, template, 1, 1, 1, 2, 2, 7, 5, 5);
        x.packet(0, 5, 6, 0, 0, true);
        Checks.due("read", 1, x.hear(x.report(0)));
        Checks.due("by the bytes heard", "5 -1 -1 -1 -1 -1 -1 -1 0", Checks.row(x, 0));
    }

    private static void twentyTemplatesAreKnown() {
        FlowShelf x = new FlowShelf();
        Checks.template(x, 0, 0, 0, 1);
        int template = x.announce(0, 0);
        for (int revision = 1; revision <= 20; revision++) {
            x.poke(template, 0, revision % 2);
            x.poke(template, 4, revision);
            Checks.due("template " + revision, 0, x.hear(template));
        }
        Checks.due("the 20th again", 0, x.hear(template));
        x.poke(template, 4, 21);
        Checks.unsupported("the 21st", () -> x.hear(template));
        bad(x, template, 7, 5);
        x.packet(0, 5, 6, 0, 0, true);
        int records = x.report(0);
        x.poke(records, 4, 21);
        Checks.due("it is not known", 0, x.hear(records));
        Checks.due("so records wait", 1, x.count(0, 6));
        x.poke(records, 4, 20);
        x.poke(records, 6, 1);
        Checks.due("the 20th is", 1, x.hear(records));
    }

    private static FlowShelf withRows(int rows) {
        FlowShelf x = new FlowShelf();
        Checks.template(x, 0, 0, 0, 1);
        x.hear(x.announce(0, 0));
        int left = rows;
        while (left > 0) {
            int now = Math.min(left, 20);
            Checks.finished(x, 0, now);
            x.hear(x.report(0));
            left -= now;
        }
        Checks.due("rows made", rows, x.rows());
        return x;
    }

    private static void eightyRowsAreKept() {
        FlowShelf x = withRows(79);
        Checks.finished(x, 0, 2);
        int two = x.report(0);
        x.poke(two, 6, 90);
        Checks.unsupported("81 rows", () -> x.hear(two));
        Checks.due("nothing was heard", 0, x.count(0, 5));
        bad(x, two, 5, 1);
        bad(x, two, 5, 3);
        Checks.finished(x, 0, 1);
        Checks.due("the 80th", 1, x.hear(x.report(0)));
        Checks.unsupported("82 rows", () -> x.hear(two));
        x.poke(two, 6, 78);
        Checks.due("heard before", 0, x.hear(two));
        x.poke(two, 6, 90);
        x.poke(two, 3, 1);
        Checks.due("what waits makes no row", 0, x.hear(two));
        Checks.due("it waits", 1, x.count(0, 6));
        int template = x.announce(0, 0);
        Checks.due("a known template", 0, x.hear(template));
        x.poke(template, 3, 2);
        Checks.due("one that none waits for", 0, x.hear(template));
        x.poke(template, 3, 1);
        Checks.unsupported("the one that it waits for", () -> x.hear(template));
        Checks.due("it waits still", 1, x.count(0, 6));
    }

    private static void theShelfMayBeTooMuch() {
        FlowShelf x = withRows(76);
        Checks.finished(x, 0, 2);
        int two = x.report(0);
        x.poke(two, 4, 2);
        x.poke(two, 5, 3);
        x.hear(two);
        x.poke(two, 5, 2);
        x.poke(two, 6, 90);
        x.hear(two);
        int template = x.announce(0, 0);
        x.poke(template, 4, 2);
        Checks.unsupported("76 and 3 and 2, though the 3 are bad", () -> x.hear(template));
        Checks.due("nothing is spoilt", 0, x.count(0, 8));
        x.poke(two, 6, 95);
        x.hear(two);
        Checks.due("it is not known", 3, x.count(0, 6));

        FlowShelf y = withRows(76);
        Checks.finished(y, 0, 2);
        int pair = y.report(0);
        y.poke(pair, 4, 2);
        y.hear(pair);
        y.poke(pair, 6, 90);
        y.hear(pair);
        y.poke(pair, 4, 3);
        y.poke(pair, 6, 95);
        y.hear(pair);
        int second = y.announce(0, 0);
        y.poke(second, 4, 2);
        Checks.due("76 and 2 and 2", 4, y.hear(second));
        Checks.due("rows", 80, y.rows());
    }

    private static void samplersAreNoted() {
        FlowShelf x = new FlowShelf();
        x.tell(0);
        note(x, "the first one", 0, 2, 5, 3, 3);
        note(x, "the same", 0, 2, 5, 4, 3);
        note(x, "an earlier one", 0, 2, 4, 4, 3);
        note(x, "a greater one", 0, 2, 6, 5, 5);
        note(x, "an earlier epoch", 0, 1, 200, 6, 5);
        note(x, "a later epoch", 0, 3, 0, 7, 7);
        note(x, "the epoch before", 0, 2, 255, 8, 7);
        note(x, "the next", 0, 3, 255, 9, 9);
        note(x, "the other's first", 1, 0, 0, 1, 1);
        note(x, "the other's next", 1, 0, 1, 2, 2);
        Checks.due("each has its own", 9, x.count(0, 9));
        Checks.due("no sampler is set by it", true, x.packet(0, 1, 1, 1, 1, false) && x.packet(0, 1, 1, 1, 1, false));
    }

    private static void note(FlowShelf x, String what, int exporter, int epoch, int before, int n, int noted) {
        Checks.pokeAll(x, 0, exporter, epoch, 2, before, n);
        Checks.due(what + " makes no row", 0, x.hear(0));
        Checks.due(what, noted, x.count(exporter, 9));
    }
}
