/** Promises 7 to 11 at their edges: a test of its own for each sentence that names one. */
public final class TemplateEdgesTest {
    private static final int[] LEAST = {1, 1, 1, 3, 2, 2, 2, 1};
    private static final int[] NO_NUMBER = {-1, 3, Integer.MIN_VALUE, Integer.MAX_VALUE};

    public static void main(String[] args) {
        fieldsNeedAnExporter();
        fieldsNeedATemplateNumber();
        fieldsAreZeroToSeven();
        lengthsAreZeroToFour();
        eachFieldHasItsLeastLength();
        aVariableLengthHasNoLeast();
        aDraftHasEachFieldOnce();
        aDraftHasUpToEightFields();
        aDraftMayGrowWhileATemplateIsInForce();
        sealsNeedAnExporter();
        sealsNeedANumber();
        anEmptyDraftIsNotSealed();
        onlyOneTemplateIsInForce();
        aSealedDraftIsEmpty();
        revisionsGoUpByOne();
        revisionsAreOfANumber();
        revisionsAreOfAnEpoch();
        withdrawNeedsAnExporter();
        withdrawNeedsANumber();
        withdrawNeedsATemplateInForce();
        restartNeedsAnExporter();
        restartEndsAtEpochFive();
        aRefusedRestartForgetsNothing();
        restartLeavesNoFlows();
        restartLeavesNoTemplatesAndDrafts();
        restartLeavesNoRecordsAndSamplersReported();
        restartSetsTheSampler();
        restartLeavesTheClock();
        announceNeedsAnExporter();
        announceNeedsANumber();
        announceNeedsATemplateInForce();
        announceStopsAtThirtyReports();
        templatesHaveOneToEightFields();
        Checks.close();
    }

    private static void fieldsNeedAnExporter() {
        Checks.sentence("7: there is no such exporter");
        FlowShelf x = new FlowShelf();
        for (int e : Checks.NO_EXPORTER) {
            Checks.argument("field of " + e, () -> x.field(e, 0, 0, 1));
        }
        Checks.due("of 0", 1, x.field(0, 0, 0, 1));
        Checks.due("of 1", 1, x.field(1, 0, 0, 1));
    }

    private static void fieldsNeedATemplateNumber() {
        Checks.sentence("7: there is no such template number");
        FlowShelf x = new FlowShelf();
        for (int t : NO_NUMBER) {
            Checks.argument("field for " + t, () -> x.field(0, t, 0, 1));
        }
        for (int t = 0; t < 3; t++) {
            Checks.due("for " + t, 1, x.field(0, t, 0, 1));
        }
    }

    private static void fieldsAreZeroToSeven() {
        Checks.sentence("7: there is no such field");
        FlowShelf x = new FlowShelf();
        for (int f : new int[] {-1, 8, Integer.MIN_VALUE, Integer.MAX_VALUE}) {
            Checks.argument("field " + f, () -> x.field(0, 0, f, 4));
            Checks.argument("field " + f + ", variable", () -> x.field(0, 0, f, 0));
        }
        Checks.due("field 0", 1, x.field(0, 0, 0, 4));
        Checks.due("field 7", 2, x.field(0, 0, 7, 4));
    }

    private static void lengthsAreZeroToFour() {
        Checks.sentence("7: length is not 0 .. 4");
        for (int f = 0; f < 8; f++) {
            FlowShelf x = new FlowShelf();
            int field = f;
            for (int length : new int[] {-1, 5, Integer.MIN_VALUE, Integer.MAX_VALUE}) {
                Checks.argument("field " + f + " of " + length, () -> x.field(0, 0, field, length));
            }
            Checks.due("field " + f + " of 4", 1, x.field(0, 0, f, 4));
        }
    }

    private static void eachFieldHasItsLeastLength() {
        Checks.sentence("7: length is 1 .. 4 and less than the field's least");
        for (int f = 0; f < 8; f++) {
            FlowShelf x = new FlowShelf();
            int field = f;
            for (int length = 1; length < LEAST[f]; length++) {
                int less = length;
                Checks.argument("field " + f + " of " + length, () -> x.field(0, 0, field, less));
            }
            Checks.state("the draft is empty still", () -> x.seal(0, 0));
            Checks.due("field " + f + " of " + LEAST[f], 1, x.field(0, 0, f, LEAST[f]));
        }
    }

    private static void aVariableLengthHasNoLeast() {
        Checks.sentence("each with a LENGTH: 1 .. 4, or 0, VARIABLE");
        FlowShelf x = new FlowShelf();
        for (int f = 0; f < 8; f++) {
            Checks.due("field " + f, f + 1, x.field(0, 0, f, 0));
        }
        x.seal(0, 0);
        x.announce(0, 0);
        Checks.due("all are variable", "0 0 0 0 1 8 0 0 1 0 2 0 3 0 4 0 5 0 6 0 7 0", Checks.bytes(x, 0));
    }

    private static void aDraftHasEachFieldOnce() {
        Checks.sentence("7: it has that field");
        FlowShelf x = new FlowShelf();
        x.field(0, 0, 3, 3);
        Checks.state("again", () -> x.field(0, 0, 3, 3));
        Checks.state("by another length", () -> x.field(0, 0, 3, 0));
        Checks.argument("a wrong length is wrong first", () -> x.field(0, 0, 3, 2));
        Checks.due("another draft has it not", 1, x.field(0, 1, 3, 4));
        Checks.due("another exporter's draft has it not", 1, x.field(1, 0, 3, 4));
        Checks.due("the refused ones are not there", 2, x.field(0, 0, 0, 1));
        x.seal(0, 0);
        x.announce(0, 0);
        Checks.due("nor is their length", "0 0 0 0 1 2 3 3 0 1", Checks.bytes(x, 0));
    }

    private static void aDraftHasUpToEightFields() {
        Checks.sentence("7: A draft gets a field: how many it has (a row of different fields)");
        FlowShelf x = new FlowShelf();
        for (int i = 0; i < 8; i++) {
            Checks.due("fields", i + 1, x.field(0, 2, 7 - i, 4));
        }
        for (int f = 0; f < 8; f++) {
            int field = f;
            Checks.state("a ninth", () -> x.field(0, 2, field, 4));
        }
        x.seal(0, 2);
        x.announce(0, 2);
        Checks.due("in their order", "0 0 0 2 1 8 7 4 6 4 5 4 4 4 3 4 2 4 1 4 0 4", Checks.bytes(x, 0));
    }

    private static void aDraftMayGrowWhileATemplateIsInForce() {
        Checks.sentence("To each number belongs a DRAFT (also while a template is in force)");
        FlowShelf x = new FlowShelf();
        Checks.template(x, 0, 0, 0, 1);
        Checks.due("the draft's first", 1, x.field(0, 0, 0, 4));
        Checks.due("the draft's second", 2, x.field(0, 0, 1, 4));
        x.announce(0, 0);
        Checks.due("the template is as it was", "0 0 0 0 1 1 0 1", Checks.bytes(x, 0));
        x.withdraw(0, 0);
        Checks.due("withdrawn, the draft stays", 3, x.field(0, 0, 2, 4));
        Checks.due("and is sealed", 2, x.seal(0, 0));
        x.announce(0, 0);
        Checks.due("with its fields", "0 0 0 0 2 3 0 4 1 4 2 4", Checks.bytes(x, 1));
    }

    private static void sealsNeedAnExporter() {
        Checks.sentence("8: there is no such exporter");
        FlowShelf x = new FlowShelf();
        x.field(0, 0, 0, 1);
        x.field(1, 0, 0, 1);
        for (int e : Checks.NO_EXPORTER) {
            Checks.argument("seal of " + e, () -> x.seal(e, 0));
        }
        Checks.due("seal of 0", 1, x.seal(0, 0));
        Checks.due("seal of 1", 1, x.seal(1, 0));
    }

    private static void sealsNeedANumber() {
        Checks.sentence("8: there is no such number");
        FlowShelf x = new FlowShelf();
        for (int t = 0; t < 3; t++) {
            x.field(0, t, 0, 1);
        }
        for (int t : NO_NUMBER) {
            Checks.argument("seal " + t, () -> x.seal(0, t));
        }
        for (int t = 0; t < 3; t++) {
            Checks.due("seal " + t, 1, x.seal(0, t));
        }
    }

    private static void anEmptyDraftIsNotSealed() {
        Checks.sentence("8: the draft is empty");
        FlowShelf x = new FlowShelf();
        x.field(0, 1, 0, 1);
        x.field(1, 0, 0, 1);
        Checks.state("no field", () -> x.seal(0, 0));
        x.field(0, 0, 0, 1);
        Checks.due("one field, and no revision was lost", 1, x.seal(0, 0));
        x.withdraw(0, 0);
        Checks.state("no field again", () -> x.seal(0, 0));
        Checks.state("and none in force", () -> x.announce(0, 0));
    }

    private static void onlyOneTemplateIsInForce() {
        Checks.sentence("8: a template is in force for the number");
        FlowShelf x = new FlowShelf();
        Checks.template(x, 0, 0, 0, 1);
        x.field(0, 0, 1, 2);
        Checks.state("one is in force", () -> x.seal(0, 0));
        x.announce(0, 0);
        Checks.due("it is as it was", "0 0 0 0 1 1 0 1", Checks.bytes(x, 0));
        x.withdraw(0, 0);
        Checks.due("none is, the draft is there, and no revision was lost", 2, x.seal(0, 0));
        x.announce(0, 0);
        Checks.due("the draft's fields", "0 0 0 0 2 1 1 2", Checks.bytes(x, 1));
        Checks.template(x, 0, 1, 0, 1);
        Checks.template(x, 0, 2, 0, 1);
        Checks.template(x, 1, 0, 0, 1);
    }

    private static void aSealedDraftIsEmpty() {
        Checks.sentence("the draft is empty then");
        FlowShelf x = new FlowShelf();
        for (int round = 1; round <= 3; round++) {
            for (int f = 0; f < 8; f++) {
                Checks.due("field " + f + " of round " + round, f + 1, x.field(0, 0, f, 0));
            }
            x.seal(0, 0);
            x.withdraw(0, 0);
            Checks.state("nothing to seal", () -> x.seal(0, 0));
        }
    }

    private static void revisionsGoUpByOne() {
        Checks.sentence("by a REVISION (1, then 2, ..)");
        FlowShelf x = new FlowShelf();
        for (int revision = 1; revision <= 30; revision++) {
            x.field(0, 0, 0, 1);
            Checks.due("seal", revision, x.seal(0, 0));
            Checks.state("a refused seal", () -> x.seal(0, 0));
            x.announce(0, 0);
            Checks.due("announced", revision, x.byteOf(revision - 1, 4));
            x.withdraw(0, 0);
        }
    }

    private static void revisionsAreOfANumber() {
        Checks.sentence("by a REVISION for the number");
        FlowShelf x = new FlowShelf();
        Checks.template(x, 0, 0, 0, 1);
        x.withdraw(0, 0);
        x.field(0, 0, 0, 1);
        Checks.due("of number 0", 2, x.seal(0, 0));
        x.field(0, 1, 0, 1);
        Checks.due("of number 1", 1, x.seal(0, 1));
        x.field(0, 2, 0, 1);
        Checks.due("of number 2", 1, x.seal(0, 2));
        x.field(1, 0, 0, 1);
        Checks.due("of the other exporter", 1, x.seal(1, 0));
    }

    private static void revisionsAreOfAnEpoch() {
        Checks.sentence("by a REVISION in this epoch");
        FlowShelf x = new FlowShelf();
        for (int t = 0; t < 3; t++) {
            Checks.template(x, 0, t, 0, 1);
        }
        x.withdraw(0, 1);
        x.restart(0);
        for (int t = 0; t < 3; t++) {
            x.field(0, t, 0, 1);
            Checks.due("of number " + t, 1, x.seal(0, t));
        }
    }

    private static void withdrawNeedsAnExporter() {
        Checks.sentence("9: there is no such exporter");
        FlowShelf x = new FlowShelf();
        Checks.template(x, 0, 0, 0, 1);
        Checks.template(x, 1, 0, 0, 1);
        for (int e : Checks.NO_EXPORTER) {
            Checks.argument("withdraw of " + e, () -> x.withdraw(e, 0));
        }
        x.withdraw(1, 0);
        x.announce(0, 0);
        x.withdraw(0, 0);
    }

    private static void withdrawNeedsANumber() {
        Checks.sentence("9: there is no such number");
        FlowShelf x = new FlowShelf();
        for (int t = 0; t < 3; t++) {
            Checks.template(x, 0, t, 0, 1);
        }
        for (int t : NO_NUMBER) {
            Checks.argument("withdraw " + t, () -> x.withdraw(0, t));
        }
        for (int t = 0; t < 3; t++) {
            x.withdraw(0, t);
        }
    }

    private static void withdrawNeedsATemplateInForce() {
        Checks.sentence("9: none is in force for it");
        FlowShelf x = new FlowShelf();
        Checks.state("a new number", () -> x.withdraw(0, 1));
        x.field(0, 1, 0, 1);
        Checks.state("a draft only", () -> x.withdraw(0, 1));
        x.seal(0, 1);
        Checks.state("another number", () -> x.withdraw(0, 0));
        Checks.state("another exporter", () -> x.withdraw(1, 1));
        x.withdraw(0, 1);
        Checks.state("twice", () -> x.withdraw(0, 1));
    }

    private static void restartNeedsAnExporter() {
        Checks.sentence("10: there is none such");
        FlowShelf x = new FlowShelf();
        for (int e : Checks.NO_EXPORTER) {
            Checks.argument("restart of " + e, () -> x.restart(e));
        }
        Checks.due("restart of 0", 1, x.restart(0));
        Checks.due("epoch of 1", 0, x.count(1, 1));
        Checks.due("restart of 1", 1, x.restart(1));
    }

    private static void restartEndsAtEpochFive() {
        Checks.sentence("10: its epoch is 5");
        FlowShelf x = new FlowShelf();
        for (int epoch = 1; epoch <= 5; epoch++) {
            Checks.due("restart", epoch, x.restart(0));
            Checks.due("epoch", epoch, x.count(0, 1));
        }
        Checks.state("a sixth restart", () -> x.restart(0));
        Checks.due("epoch", 5, x.count(0, 1));
        Checks.due("the other's", 1, x.restart(1));
    }

    private static void aRefusedRestartForgetsNothing() {
        Checks.sentence("10: its epoch is 5 (a refused restart forgets nothing)");
        FlowShelf x = new FlowShelf();
        for (int epoch = 1; epoch <= 5; epoch++) {
            x.restart(0);
        }
        Checks.template(x, 0, 0, 0, 1);
        x.field(0, 0, 1, 1);
        Checks.finished(x, 0, 2);
        x.report(0);
        x.tell(0);
        Checks.finished(x, 0, 3);
        x.packet(0, 9, 9, 9, 9, false);
        x.sampler(0, 2);
        x.packet(0, 9, 9, 9, 9, false);
        Checks.state("refused", () -> x.restart(0));
        Checks.due("counts", "0 5 1 3 2 0 0 0 0 0", Checks.counts(x, 0));
        Checks.due("sampler and counter", false, x.packet(0, 9, 9, 9, 9, false));
        Checks.due("samplers reported", "0 5 2 1 2", Checks.bytes(x, x.tell(0)));
        Checks.due("the template", "0 5 0 0 1 1 0 1", Checks.bytes(x, x.announce(0, 0)));
        Checks.due("the draft", 2, x.field(0, 0, 2, 1));
        x.withdraw(0, 0);
        Checks.due("the revision", 2, x.seal(0, 0));
    }

    private static void restartLeavesNoFlows() {
        Checks.sentence("10: without flows");
        FlowShelf x = new FlowShelf();
        Checks.finished(x, 0, 14);
        for (int i = 0; i < 6; i++) {
            x.packet(0, i, 1, 1, 1, false);
            x.packet(1, i, 1, 1, 1, i < 3);
        }
        x.restart(0);
        Checks.due("in the cache", 0, x.count(0, 2));
        Checks.due("ended", 0, x.count(0, 3));
        Checks.index("none is ended", () -> x.ended(0, 0, 0));
        Checks.due("none to flush", 0, x.flush(0));
        Checks.due("the other's in the cache", 3, x.count(1, 2));
        Checks.due("the other's ended", 3, x.count(1, 3));
        x.packet(0, 5, 1, 1, 7, true);
        Checks.due("a key begins anew", "5 1 1 7 1 0 0 3", Checks.flow(x, 0, 0));
    }

    private static void restartLeavesNoTemplatesAndDrafts() {
        Checks.sentence("10: without templates, drafts, revisions");
        FlowShelf x = new FlowShelf();
        for (int t = 0; t < 3; t++) {
            Checks.template(x, 0, t, 0, 1);
            Checks.template(x, 1, t, 0, 1);
            x.field(0, t, 1, 1);
            x.field(1, t, 1, 1);
        }
        x.restart(0);
        for (int t = 0; t < 3; t++) {
            int template = t;
            Checks.state("no template", () -> x.announce(0, template));
            Checks.state("no template", () -> x.withdraw(0, template));
            Checks.state("no draft", () -> x.seal(0, template));
            Checks.due("a draft from nothing", 1, x.field(0, t, 1, 1));
            Checks.due("a revision from nothing", 1, x.seal(0, t));
            Checks.due("the other's draft", 2, x.field(1, t, 2, 1));
            x.withdraw(1, t);
            Checks.due("the other's revision", 2, x.seal(1, t));
        }
    }

    private static void restartLeavesNoRecordsAndSamplersReported() {
        Checks.sentence("10: without records and samplers reported");
        FlowShelf x = new FlowShelf();
        for (int e = 0; e < 2; e++) {
            Checks.template(x, e, 0, 0, 1);
            Checks.finished(x, e, 3);
            x.report(e);
            x.tell(e);
        }
        x.restart(0);
        Checks.due("records written", 0, x.count(0, 4));
        Checks.due("the other's", 3, x.count(1, 4));
        Checks.template(x, 0, 0, 0, 1);
        Checks.finished(x, 0, 1);
        Checks.due("places from 0 on", "0 1 1 0 1 1 0 0", Checks.bytes(x, x.report(0)));
        Checks.due("samplers from 0 on", "0 1 2 0 1", Checks.bytes(x, x.tell(0)));
        Checks.due("the other's go on", "1 0 2 1 1", Checks.bytes(x, x.tell(1)));
        Checks.due("the reports stay", "0 0 1 0 1 3 0 0 1 2", Checks.bytes(x, 0));
    }

    private static void restartSetsTheSampler() {
        Checks.sentence("10: its sampler is 1, its counter 0");
        FlowShelf x = new FlowShelf();
        for (int e = 0; e < 2; e++) {
            x.sampler(e, 5);
            x.packet(e, 1, 1, 1, 1, false);
        }
        x.restart(0);
        Checks.due("told", "0 1 2 0 1", Checks.bytes(x, x.tell(0)));
        Checks.due("the counter is 0", true, x.packet(0, 1, 1, 1, 1, false));
        Checks.due("n is 1", true, x.packet(0, 1, 1, 1, 1, false));
        Checks.due("the other's counter is 1", false, x.packet(1, 1, 1, 1, 1, false));
        Checks.due("the other's n is 5", "1 0 2 0 5", Checks.bytes(x, x.tell(1)));
    }

    private static void restartLeavesTheClock() {
        Checks.sentence("10: the clock stays");
        FlowShelf x = new FlowShelf();
        x.tick(0, 77);
        x.tick(1, 5);
        x.restart(0);
        Checks.due("clock", 77, x.count(0, 0));
        Checks.due("the other's", 5, x.count(1, 0));
        x.packet(0, 1, 1, 1, 1, false);
        Checks.due("14 ticks", 0, x.tick(0, 14));
        Checks.due("the 15th", 1, x.tick(0, 1));
        Checks.due("by the same clock", "1 1 1 1 1 77 92 1", Checks.flow(x, 0, 0));
    }

    private static void announceNeedsAnExporter() {
        Checks.sentence("11: there is no such exporter");
        FlowShelf x = new FlowShelf();
        Checks.template(x, 0, 0, 0, 1);
        Checks.template(x, 1, 0, 0, 1);
        for (int e : Checks.NO_EXPORTER) {
            Checks.argument("announce of " + e, () -> x.announce(e, 0));
        }
        Checks.due("announce of 0", 0, x.announce(0, 0));
        Checks.due("announce of 1", 1, x.announce(1, 0));
    }

    private static void announceNeedsANumber() {
        Checks.sentence("11: there is no such number");
        FlowShelf x = new FlowShelf();
        for (int t = 0; t < 3; t++) {
            Checks.template(x, 0, t, 0, 1);
        }
        for (int t : NO_NUMBER) {
            Checks.argument("announce " + t, () -> x.announce(0, t));
        }
        for (int t = 0; t < 3; t++) {
            Checks.due("announce " + t, t, x.announce(0, t));
            Checks.due("its number", t, x.byteOf(t, 3));
        }
    }

    private static void announceNeedsATemplateInForce() {
        Checks.sentence("11: none is in force for it");
        FlowShelf x = new FlowShelf();
        Checks.state("a new number", () -> x.announce(0, 1));
        x.field(0, 1, 0, 1);
        Checks.state("a draft only", () -> x.announce(0, 1));
        x.seal(0, 1);
        Checks.state("another number", () -> x.announce(0, 2));
        Checks.state("another exporter", () -> x.announce(1, 1));
        Checks.due("no report was made by these", 0, x.announce(0, 1));
        x.withdraw(0, 1);
        Checks.state("withdrawn", () -> x.announce(0, 1));
        Checks.due("one report is there", -1, x.size(1));
    }

    private static void announceStopsAtThirtyReports() {
        Checks.sentence("11: there are 30 reports");
        FlowShelf x = new FlowShelf();
        Checks.template(x, 0, 0, 0, 1);
        Checks.template(x, 1, 0, 0, 1);
        for (int i = 0; i < 29; i++) {
            x.tell(0);
        }
        Checks.due("the 30th", 29, x.announce(0, 0));
        Checks.state("the 31st", () -> x.announce(0, 0));
        Checks.state("of the other exporter", () -> x.announce(1, 0));
        Checks.argument("a wrong number is wrong first", () -> x.announce(0, 3));
        Checks.due("the 30th is there", 8, x.size(29));
        Checks.due("no 31st is there", -1, x.size(30));
    }

    private static void templatesHaveOneToEightFields() {
        Checks.sentence("Kind 0, a TEMPLATE: 5 how many fields it has; from 6 on, for each, the field and its length");
        FlowShelf x = new FlowShelf();
        for (int fields = 1; fields <= 8; fields++) {
            for (int f = 0; f < fields; f++) {
                x.field(1, 2, f, 4);
            }
            x.seal(1, 2);
            int made = x.announce(1, 2);
            Checks.due("bytes", 6 + 2 * fields, x.size(made));
            Checks.due("fields", fields, x.byteOf(made, 5));
            Checks.due("the last field", fields - 1, x.byteOf(made, 4 + 2 * fields));
            Checks.due("its length", 4, x.byteOf(made, 5 + 2 * fields));
            x.withdraw(1, 2);
        }
    }
}
