/** Promises 7 to 11: field, seal, withdraw, restart, announce. */
public final class TemplateTest {
    private static final int[] LEAST = {1, 1, 1, 3, 2, 2, 2, 1};

    public static void main(String[] args) {
        fieldsHaveLeastLengths();
        fieldRefusesWrongNumbers();
        aDraftHasAFieldOnce();
        sealMakesRevisions();
        sealRefuses();
        withdrawRefuses();
        restartForgets();
        restartEndsAtFive();
        announceWritesTheTemplate();
        announceRefuses();
        Checks.close();
    }

    private static void fieldsHaveLeastLengths() {
        for (int f = 0; f < 8; f++) {
            for (int length = 0; length <= 4; length++) {
                FlowShelf x = new FlowShelf();
                int field = f;
                int its = length;
                if (length != 0 && length < LEAST[f]) {
                    Checks.argument("field " + f + " of " + length, () -> x.field(0, 0, field, its));
                } else {
                    Checks.due("field " + f + " of " + length, 1, x.field(0, 0, f, length));
                }
            }
        }
    }

    private static void fieldRefusesWrongNumbers() {
        FlowShelf x = new FlowShelf();
        Checks.argument("exporter 2", () -> x.field(2, 0, 0, 1));
        Checks.argument("exporter -1", () -> x.field(-1, 0, 0, 1));
        Checks.argument("template 3", () -> x.field(0, 3, 0, 1));
        Checks.argument("template -1", () -> x.field(0, -1, 0, 1));
        Checks.argument("field 8", () -> x.field(0, 0, 8, 1));
        Checks.argument("field -1", () -> x.field(0, 0, -1, 1));
        Checks.argument("length 5", () -> x.field(0, 0, 0, 5));
        Checks.argument("length -1", () -> x.field(0, 0, 0, -1));
        Checks.state("the draft stayed empty", () -> x.seal(0, 0));
    }

    private static void aDraftHasAFieldOnce() {
        FlowShelf x = new FlowShelf();
        for (int f = 7; f >= 0; f--) {
            Checks.due("field " + f, 8 - f, x.field(1, 2, f, 0));
            int again = f;
            Checks.state("field " + f + " again", () -> x.field(1, 2, again, 4));
        }
        Checks.argument("again, and wrong", () -> x.field(1, 2, 3, 2));
        Checks.due("another number's draft", 1, x.field(1, 1, 7, 0));
        Checks.due("another exporter's draft", 1, x.field(0, 2, 7, 0));
        x.seal(1, 2);
        Checks.due("behind a seal", 1, x.field(1, 2, 7, 0));
    }

    private static void sealMakesRevisions() {
        FlowShelf x = new FlowShelf();
        x.field(0, 1, 0, 1);
        Checks.due("first", 1, x.seal(0, 1));
        Checks.state("the draft is empty then", () -> x.seal(0, 1));
        x.field(0, 1, 2, 1);
        x.withdraw(0, 1);
        Checks.due("second, of a draft made before", 2, x.seal(0, 1));
        Checks.state("the draft is empty again", () -> x.seal(0, 1));
        Checks.due("and takes the fields of all templates before", 1, x.field(0, 1, 0, 1));
        Checks.due("and takes the fields of all templates before", 2, x.field(0, 1, 2, 1));
        x.field(0, 2, 0, 1);
        Checks.due("another number", 1, x.seal(0, 2));
        x.withdraw(0, 1);
        Checks.due("third", 3, x.seal(0, 1));
        x.field(1, 1, 2, 1);
        Checks.due("another exporter", 1, x.seal(1, 1));
    }

    private static void sealRefuses() {
        FlowShelf x = new FlowShelf();
        Checks.state("an empty draft", () -> x.seal(0, 0));
        x.field(0, 0, 0, 1);
        x.seal(0, 0);
        x.field(0, 0, 1, 1);
        Checks.state("one in force", () -> x.seal(0, 0));
        Checks.due("the draft stays", 2, x.field(0, 0, 0, 1));
        Checks.argument("seal of 2", () -> x.seal(2, 0));
        Checks.argument("seal of -1", () -> x.seal(-1, 0));
        Checks.argument("seal 3", () -> x.seal(0, 3));
        Checks.argument("seal -1", () -> x.seal(0, -1));
    }

    private static void withdrawRefuses() {
        FlowShelf x = new FlowShelf();
        x.field(0, 0, 0, 1);
        Checks.state("only a draft", () -> x.withdraw(0, 0));
        x.seal(0, 0);
        Checks.state("of another number", () -> x.withdraw(0, 1));
        Checks.state("of another exporter", () -> x.withdraw(1, 0));
        x.withdraw(0, 0);
        Checks.state("twice", () -> x.withdraw(0, 0));
        Checks.argument("withdraw of 2", () -> x.withdraw(2, 0));
        Checks.argument("withdraw of -1", () -> x.withdraw(-1, 0));
        Checks.argument("withdraw 3", () -> x.withdraw(0, 3));
        Checks.argument("withdraw -1", () -> x.withdraw(0, -1));
        x.packet(0, 1, 1, 1, 1, true);
        Checks.state("none to report by", () -> x.report(0));
    }

    private static void restartForgets() {
        FlowShelf x = new FlowShelf();
        x.tick(0, 9);
        Checks.template(x, 0, 0, 0, 1);
        Checks.template(x, 0, 2, 0, 1);
        x.field(0, 0, 1, 1);
        x.withdraw(0, 2);
        Checks.finished(x, 0, 3);
        x.report(0);
        Checks.finished(x, 0, 2);
        x.sampler(0, 4);
        x.packet(0, 1, 1, 1, 1, false);
        x.tell(0);
        Checks.template(x, 1, 0, 0, 1);
        x.packet(1, 1, 1, 1, 1, false);
        Checks.due("restart", 1, x.restart(0));
        Checks.due("counts behind it", "9 1 0 0 0 0 0 0 0 0", Checks.counts(x, 0));
        Checks.due("the other's counts", "0 0 1 0 0 0 0 0 0 0", Checks.counts(x, 1));
        Checks.state("no template", () -> x.withdraw(0, 0));
        Checks.state("no draft", () -> x.seal(0, 0));
        x.field(0, 2, 1, 1);
        Checks.due("no revision", 1, x.seal(0, 2));
        Checks.due("sampler and counter", true, x.packet(0, 1, 1, 1, 1, true));
        Checks.due("sampler 1", true, x.packet(0, 1, 1, 1, 1, true));
        Checks.due("samplers told", "0 1 2 0 1", Checks.bytes(x, x.tell(0)));
        Checks.due("places from 0 on", "0 1 1 2 1 2 0 1 1", Checks.bytes(x, x.report(0)));
        Checks.due("reports stay", "0 0 2 0 4", Checks.bytes(x, 1));
        x.withdraw(1, 0);
    }

    private static void restartEndsAtFive() {
        FlowShelf x = new FlowShelf();
        for (int i = 1; i <= 5; i++) {
            Checks.due("restart", i, x.restart(1));
        }
        Checks.template(x, 1, 0, 0, 1);
        Checks.state("epoch 5", () -> x.restart(1));
        Checks.due("epoch", 5, x.count(1, 1));
        x.withdraw(1, 0);
        Checks.due("the other's epoch", 0, x.count(0, 1));
        Checks.argument("restart of 2", () -> x.restart(2));
        Checks.argument("restart of -1", () -> x.restart(-1));
    }

    private static void announceWritesTheTemplate() {
        FlowShelf x = new FlowShelf();
        x.restart(1);
        x.restart(1);
        Checks.template(x, 1, 2, 7, 0, 3, 4, 0, 1);
        Checks.due("number", 0, x.announce(1, 2));
        Checks.due("bytes", "1 2 0 2 1 3 7 0 3 4 0 1", Checks.bytes(x, 0));
        x.withdraw(1, 2);
        Checks.template(x, 1, 2, 0, 0, 1, 0, 2, 0, 3, 0, 4, 0, 5, 0, 6, 0, 7, 0);
        x.field(1, 2, 1, 1);
        Checks.due("number", 1, x.announce(1, 2));
        Checks.due("bytes", "1 2 0 2 2 8 0 0 1 0 2 0 3 0 4 0 5 0 6 0 7 0", Checks.bytes(x, 1));
        Checks.due("again", 2, x.announce(1, 2));
        Checks.due("the same bytes", Checks.bytes(x, 1), Checks.bytes(x, 2));
    }

    private static void announceRefuses() {
        FlowShelf x = new FlowShelf();
        x.field(0, 1, 0, 1);
        Checks.state("only a draft", () -> x.announce(0, 1));
        x.seal(0, 1);
        Checks.state("of another number", () -> x.announce(0, 0));
        Checks.state("of another exporter", () -> x.announce(1, 1));
        Checks.argument("announce of 2", () -> x.announce(2, 1));
        Checks.argument("announce of -1", () -> x.announce(-1, 1));
        Checks.argument("announce 3", () -> x.announce(0, 3));
        Checks.argument("announce -1", () -> x.announce(0, -1));
        for (int i = 0; i < 30; i++) {
            Checks.due("announce", i, x.announce(0, 1));
        }
        Checks.state("30 reports", () -> x.announce(0, 1));
        Checks.argument("30 reports and wrong", () -> x.announce(0, 3));
        x.withdraw(0, 1);
        Checks.state("withdrawn", () -> x.announce(0, 1));
    }
}
