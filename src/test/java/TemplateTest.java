/** Promises 7 to 11: field, seal, withdraw, restart, announce. */
public final class TemplateTest {
    public static void main(String[] args) {
        aDraftHasAFieldOnce();
        sealMakesRevisions();
        restartForgets();
        announceWritesTheTemplate();
        Checks.close();
    }

    private static void aDraftHasAFieldOnce() {
        FlowShelf x = new FlowShelf();
        for (int f = 7; f >= 0; f--) {
            Checks.due("field " + f, 8 - f, x.field(1, 2, f, 0));
            int again = f;
            Checks.state("field " + f + " again", () -> x.field(1, 2, again, 4));
        }
        Checks.argument("again, and wrong", () -> x.field(1, 2, 3, 2));
        Checks.due("another number's draft", 1, x.field(1, 1, 7, 0));
        Checks.due("another exporter's draft", 1, x.field(0, 2, 7, 0));
        x.seal(1, 2);
        Checks.due("behind a seal", 1, x.field(1, 2, 7, 0));
    }

    private static void sealMakesRevisions() {
        FlowShelf x = new FlowShelf();
        x.field(0, 1, 0, 1);
        Checks.due("first", 1, x.seal(0, 1));
        Checks.state("the draft is empty then", () -> x.seal(0, 1));
        x.field(0, 1, 2, 1);
        x.withdraw(0, 1);
        Checks.due("second, of a draft made before", 2, x.seal(0, 1));
        Checks.state("the draft is empty again", () -> x.seal(0, 1));
        Checks.due("and takes the fields of all templates before", 1, x.field(0, 1, 0, 1));
        Checks.due("and takes the fields of all templates before", 2, x.field(0, 1, 2, 1));
        x.field(0, 2, 0, 1);
        Checks.due("another number", 1, x.seal(0, 2));
        x.withdraw(0, 1);
        Checks.due("third", 3, x.seal(0, 1));
        x.field(1, 1, 2, 1);
        Checks.due("another exporter", 1, x.seal(1, 1));
    }

    private static void restartForgets() {
        FlowShelf x = new FlowShelf();
        x.tick(0, 9);
        Checks.template(x, 0, 0, 0, 1);
        Checks.template(x, 0, 2, 0, 1);
        x.field(0, 0, 1, 1);
        x.withdraw(0, 2);
        Checks.finished(x, 0, 3);
        x.report(0);
        Checks.finished(x, 0, 2);
        x.sampler(0, 4);
        x.packet(0, 1, 1, 1, 1, false);
        x.tell(0);
        Checks.template(x, 1, 0, 0, 1);
        x.packet(1, 1, 1, 1, 1, false);
        Checks.due("restart", 1, x.restart(0));
        Checks.due("counts behind it", "9 1 0 0 0 0 0 0 0 0", Checks.counts(x, 0));
        Checks.due("the other's counts", "0 0 1 0 0 0 0 0 0 0", Checks.counts(x, 1));
        Checks.state("no template", () -> x.withdraw(0, 0));
        Checks.state("no draft", () -> x.seal(0, 0));
        x.field(0, 2, 1, 1);
        Checks.due("no revision", 1, x.seal(0, 2));
        Checks.due("sampler and counter", true, x.packet(0, 1, 1, 1, 1, true));
        Checks.due("sampler 1", true, x.packet(0, 1, 1, 1, 1, true));
        Checks.due("samplers told", "0 1 2 0 1", Checks.bytes(x, x.tell(0)));
        Checks.due("places from 0 on", "0 1 1 2 1 2 0 1 1", Checks.bytes(x, x.report(0)));
        Checks.due("reports stay", "0 0 2 0 4", Checks.bytes(x, 1));
        x.withdraw(1, 0);
    }

    private static void announceWritesTheTemplate() {
        FlowShelf x = new FlowShelf();
        x.restart(1);
        x.restart(1);
        Checks.template(x, 1, 2, 7, 0, 3, 4, 0, 1);
        Checks.due("number", 0, x.announce(1, 2));
        Checks.due("bytes", "1 2 0 2 1 3 7 0 3 4 0 1", Checks.bytes(x, 0));
        x.withdraw(1, 2);
        Checks.template(x, 1, 2, 0, 0, 1, 0, 2, 0, 3, 0, 4, 0, 5, 0, 6, 0, 7, 0);
        x.field(1, 2, 1, 1);
        Checks.due("number", 1, x.announce(1, 2));
        Checks.due("bytes", "1 2 0 2 2 8 0 0 1 0 2 0 3 0 4 0 5 0 6 0 7 0", Checks.bytes(x, 1));
        Checks.due("again", 2, x.announce(1, 2));
        Checks.due("the same bytes", Checks.bytes(x, 1), Checks.bytes(x, 2));
    }
}
