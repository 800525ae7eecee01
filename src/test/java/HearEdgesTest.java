/** Promise 17 at its edges: a test of its own for each sentence that names one. Reports are written as their bytes. */
public final class HearEdgesTest {
    public static void main(String[] args) {
        hearNeedsAReport();
        exportersAreZeroAndOne();
        epochsEndAtFive();
        kindsEndAtTwo();
        numbersEndAtTwo();
        revisionZeroIsBad();
        aTemplateHasAField();
        aTemplateHasNoMoreThanEight();
        aTemplateHasTwoBytesForEach();
        aFieldIsNotAboveSeven();
        aFieldIsNotThereTwice();
        aLengthIsNotAboveFour();
        recordsHaveAByteSix();
        recordsHaveARecord();
        placesEndAtNinetyNine();
        aSamplerHasFiveBytes();
        aSamplerIsOneToNine();
        tooFewBytesAreBad();
        tooFewBytesOfAVariableFieldAreBad();
        aVariableFieldOfNoByteIsBad();
        aVariableFieldOfFiveBytesIsBad();
        bytesLeftAreBad();
        aBadLastRecordSpoilsAll();
        ofAKnownTemplateNothingHappens();
        templatesAreKnownByFourThings();
        waitingRecordsAreReadInOrder();
        waitingRecordsThatAreBadAreSpoilt();
        aTemplateIsKnownAsItWasHeard();
        ofAHeardPlaceNothingHappens();
        placesAreHeardOfAnExporterAndEpoch();
        badRecordsAreNotHeard();
        theShelfHasTheBytesOfThen();
        theShelfHoldsFive();
        droppedPlacesWereHeard();
        spoiltPlacesWereHeard();
        twentyTemplatesAreKnown();
        aTwentyFirstTemplateChangesNothing();
        eightyRowsByRecords();
        eightyRowsByTheShelf();
        theRowsAreCountedAsIfNoneWereBad();
        withEightyRowsOtherThingsAreHeard();
        badGoesBeforeTooMuch();
        theFirstSamplerIsNoted();
        aLaterEpochIsNoted();
        aGreaterByteThreeIsNoted();
        Checks.close();
    }

    private static void hearNeedsAReport() {
        Checks.sentence("17: there is no such report");
        FlowShelf x = new FlowShelf();
        Checks.index("report 0 of none", () -> x.hear(0));
        x.tell(0);
        Checks.due("report 0", 0, x.hear(0));
        Checks.index("report 1", () -> x.hear(1));
        for (int i = 1; i < 30; i++) {
            x.tell(0);
        }
        Checks.due("report 29", 0, x.hear(29));
        for (int far : new int[] {-1, 30, Integer.MIN_VALUE, Integer.MAX_VALUE}) {
            Checks.index("report " + far, () -> x.hear(far));
        }
    }

    private static void exportersAreZeroAndOne() {
        Checks.sentence("BAD: any report whose exporter is not 0 or 1");
        Post p = new Post();
        for (int e : new int[] {2, 255}) {
            p.bad("template of " + e, e, 0, 0, 0, 1, 1, 0, 1);
            p.bad("records of " + e, e, 0, 1, 0, 1, 1, 0, 7);
            p.bad("sampler of " + e, e, 0, 2, 0, 5);
        }
        for (int e = 0; e < 2; e++) {
            p.hears("template of " + e, 0, e, 0, 0, 0, 1, 1, 0, 1);
            p.hears("records of " + e, 1, e, 0, 1, 0, 1, 1, 0, 7);
            p.hears("sampler of " + e, 0, e, 0, 2, 0, 5);
            Checks.due("the row's exporter", e, p.x.row(e, 8));
            Checks.due("the noted n", 5, p.x.count(e, 9));
        }
    }

    private static void epochsEndAtFive() {
        Checks.sentence("BAD: whose epoch is above 5");
        Post p = new Post();
        for (int epoch : new int[] {6, 255}) {
            p.bad("template of " + epoch, 0, epoch, 0, 0, 1, 1, 0, 1);
            p.bad("records of " + epoch, 0, epoch, 1, 0, 1, 1, 0, 7);
            p.bad("sampler of " + epoch, 0, epoch, 2, 0, 5);
        }
        for (int epoch : new int[] {0, 5}) {
            p.hears("template of " + epoch, 0, 0, epoch, 0, 0, 1, 1, 0, 1);
            p.hears("records of " + epoch, 1, 0, epoch, 1, 0, 1, 1, 0, 7);
            p.hears("sampler of " + epoch, 0, 0, epoch, 2, 0, 4 + epoch);
            Checks.due("the noted n", 4 + epoch, p.x.count(0, 9));
        }
    }

    private static void kindsEndAtTwo() {
        Checks.sentence("BAD: whose kind is above 2");
        Post p = new Post();
        for (int kind : new int[] {3, 255}) {
            p.bad("5 bytes of kind " + kind, 0, 0, kind, 0, 1);
            p.bad("8 bytes of kind " + kind, 0, 0, kind, 0, 1, 1, 0, 1);
        }
        p.hears("kind 0", 0, 0, 0, 0, 0, 1, 1, 0, 1);
        p.hears("kind 1", 1, 0, 0, 1, 0, 1, 1, 0, 1);
        p.hears("kind 2", 0, 0, 0, 2, 0, 1);
    }

    private static void numbersEndAtTwo() {
        Checks.sentence("BAD: of templates and records: number above 2");
        Post p = new Post();
        for (int number : new int[] {3, 255}) {
            p.bad("template " + number, 0, 0, 0, number, 1, 1, 0, 1);
            p.bad("records of template " + number, 0, 0, 1, number, 1, 1, 0, 7);
        }
        for (int number : new int[] {0, 2}) {
            p.hears("template " + number, 0, 0, 0, 0, number, 1, 1, 0, 1);
            p.hears("records of template " + number, 1, 0, 0, 1, number, 1, 1, number, 7);
        }
        p.hears("byte 3 of a sampler is no number", 0, 0, 0, 2, 255, 6);
        Checks.due("it is noted", 6, p.x.count(0, 9));
    }

    private static void revisionZeroIsBad() {
        Checks.sentence("BAD: of templates and records: revision 0");
        Post p = new Post();
        p.bad("template", 0, 0, 0, 0, 0, 1, 0, 1);
        p.bad("records", 0, 0, 1, 0, 0, 1, 0, 7);
        for (int revision : new int[] {1, 255}) {
            p.hears("template of revision " + revision, 0, 0, 0, 0, 0, revision, 1, 0, 1);
            p.hears("records of revision " + revision, 1, 0, 0, 1, 0, revision, 1, revision & 3, 7);
        }
    }

    private static void aTemplateHasAField() {
        Checks.sentence("BAD: A template: no field");
        Post p = new Post();
        p.bad("no field", 0, 0, 0, 0, 1, 0, 0, 1);
        p.hears("records wait", 0, 0, 0, 1, 0, 1, 1, 0, 7);
        p.hears("one field", 1, 0, 0, 0, 0, 1, 1, 0, 1);
    }

    private static void aTemplateHasNoMoreThanEight() {
        Checks.sentence("BAD: A template: more than 8 fields");
        Post p = new Post();
        p.bad("nine fields", 0, 0, 0, 0, 1, 9, 0, 1, 1, 1, 2, 1, 3, 1, 4, 1, 5, 1, 6, 1, 7, 1, 0, 1);
        p.bad("nine fields, the last one 8", 0, 0, 0, 0, 1, 9, 0, 1, 1, 1, 2, 1, 3, 1, 4, 1, 5, 1, 6, 1, 7, 1, 8, 1);
        p.bad("255 fields", 0, 0, 0, 0, 1, 255, 0, 1, 1, 1, 2, 1, 3, 1, 4, 1, 5, 1, 6, 1, 7, 1);
        p.hears("records wait", 0, 0, 0, 1, 0, 1, 1, 0, 11, 12, 13, 14, 15, 16, 17, 18);
        p.hears("eight fields", 1, 0, 0, 0, 0, 1, 8, 0, 1, 1, 1, 2, 1, 3, 1, 4, 1, 5, 1, 6, 1, 7, 1);
        Checks.due("all are read", "11 12 13 14 15 16 17 18 0", Checks.row(p.x, 0));
    }

    private static void aTemplateHasTwoBytesForEach() {
        Checks.sentence("BAD: A template: other than 2 bytes for each behind the 6");
        Post p = new Post();
        p.bad("5 bytes", 0, 0, 0, 0, 1);
        p.bad("one field and a byte more", 0, 0, 0, 0, 1, 1, 0, 1, 1);
        p.bad("one field and two bytes more", 0, 0, 0, 0, 1, 1, 0, 1, 1, 1);
        p.bad("two fields and a byte less", 0, 0, 0, 0, 1, 2, 0, 1, 1);
        p.bad("two fields and two bytes less", 0, 0, 0, 0, 1, 2, 0, 1);
        p.hears("one field", 0, 0, 0, 0, 0, 1, 1, 0, 1);
        p.hears("two fields", 0, 0, 0, 0, 1, 1, 2, 0, 1, 1, 1);
        p.hears("read by one", 1, 0, 0, 1, 0, 1, 1, 0, 7);
        p.hears("read by two", 1, 0, 0, 1, 1, 1, 1, 1, 7, 8);
    }

    private static void aFieldIsNotAboveSeven() {
        Checks.sentence("BAD: A template: a field above 7");
        Post p = new Post();
        for (int f : new int[] {8, 32, 39, 255}) {
            p.bad("the first is " + f, 0, 0, 0, 0, 1, 2, f, 1, 0, 1);
            p.bad("the last is " + f, 0, 0, 0, 0, 1, 2, 0, 1, f, 1);
        }
        p.hears("7 and 0", 0, 0, 0, 0, 0, 1, 2, 7, 1, 0, 1);
        p.hears("read", 1, 0, 0, 1, 0, 1, 1, 0, 70, 80);
        Checks.due("row", "80 -1 -1 -1 -1 -1 -1 70 0", Checks.row(p.x, 0));
    }

    private static void aFieldIsNotThereTwice() {
        Checks.sentence("BAD: A template: a field that is there twice");
        Post p = new Post();
        for (int f = 0; f < 8; f++) {
            p.bad("field " + f, 0, 0, 0, 0, 1, 2, f, 1, f, 2);
        }
        p.bad("with one between", 0, 0, 0, 0, 1, 3, 5, 1, 6, 1, 5, 1);
        p.bad("the last two", 0, 0, 0, 0, 1, 3, 5, 1, 6, 1, 6, 1);
        p.bad("the first two", 0, 0, 0, 0, 1, 3, 5, 1, 5, 1, 6, 1);
        p.hears("all different", 0, 0, 0, 0, 0, 1, 3, 5, 1, 6, 1, 4, 1);
        p.hears("read", 1, 0, 0, 1, 0, 1, 1, 0, 7, 8, 9);
    }

    private static void aLengthIsNotAboveFour() {
        Checks.sentence("BAD: A template: a length above 4");
        Post p = new Post();
        for (int length : new int[] {5, 255}) {
            p.bad("the first is " + length, 0, 0, 0, 0, 1, 2, 3, length, 0, 1);
            p.bad("the last is " + length, 0, 0, 0, 0, 1, 2, 3, 1, 0, length);
        }
        p.hears("lengths 4 and 0", 0, 0, 0, 0, 0, 1, 2, 3, 4, 0, 0);
        p.hears("read", 1, 0, 0, 1, 0, 1, 1, 0, 255, 255, 255, 255, 1, 9);
        Checks.due("row", "9 -1 -1 4294967295 -1 -1 -1 -1 0", Checks.row(p.x, 0));
        // The least lengths are the drafts', and less than these is not called bad.
        p.hears("less than the least", 0, 0, 0, 0, 1, 1, 2, 3, 1, 4, 1);
        p.hears("read", 1, 0, 0, 1, 1, 1, 1, 1, 200, 9);
        Checks.due("row", "-1 -1 -1 200 9 -1 -1 -1 0", Checks.row(p.x, 1));
    }

    private static void recordsHaveAByteSix() {
        Checks.sentence("BAD: Records: no byte 6");
        Post p = new Post();
        p.bad("5 bytes, the template unknown", 0, 0, 1, 0, 1);
        p.hears("template", 0, 0, 0, 0, 0, 1, 1, 0, 1);
        p.bad("5 bytes, the template known", 0, 0, 1, 0, 1);
        p.hears("8 bytes", 1, 0, 0, 1, 0, 1, 1, 0, 7);
    }

    private static void recordsHaveARecord() {
        Checks.sentence("BAD: Records: no record");
        Post p = new Post();
        p.bad("none, the template unknown", 0, 0, 1, 0, 1, 0, 0, 7);
        p.bad("none at place 99", 0, 0, 1, 0, 1, 0, 99, 7);
        p.hears("template", 0, 0, 0, 0, 0, 1, 1, 0, 1);
        p.bad("none, the template known", 0, 0, 1, 0, 1, 0, 0, 7);
        p.hears("one", 1, 0, 0, 1, 0, 1, 1, 0, 7);
        p.bad("none at a place that was heard", 0, 0, 1, 0, 1, 0, 0, 7);
    }

    private static void placesEndAtNinetyNine() {
        Checks.sentence("BAD: Records: one whose place would be above 99");
        Post p = new Post();
        p.bad("one at 100", 0, 0, 1, 0, 1, 1, 100, 7);
        p.bad("one at 255", 0, 0, 1, 0, 1, 1, 255, 7);
        p.bad("two at 99", 0, 0, 1, 0, 1, 2, 99, 7, 8);
        p.bad("101 at 0", 0, 0, 1, 0, 1, 101, 0, 7, 8);
        p.bad("255 at 255", 0, 0, 1, 0, 1, 255, 255, 7, 8);
        p.hears("template", 0, 0, 0, 0, 0, 1, 1, 0, 1);
        p.bad("two at 99, the template known", 0, 0, 1, 0, 1, 2, 99, 7, 8);
        p.hears("one at 99", 1, 0, 0, 1, 0, 1, 1, 99, 7);
        p.hears("two at 98 of the next epoch wait", 0, 0, 1, 1, 0, 1, 2, 98, 7, 8);
        p.hears("a hundred at 0 of one more wait", 0, 0, 2, 1, 0, 1, 100, 0, 7, 8);
        Checks.due("on the shelf", 2, p.x.count(0, 6));
    }

    private static void aSamplerHasFiveBytes() {
        Checks.sentence("BAD: A sampler: other than 5 bytes");
        Post p = new Post();
        p.bad("8 bytes", 0, 0, 2, 0, 5, 0, 0, 0);
        p.bad("9 bytes", 0, 0, 2, 0, 5, 0, 0, 0, 0);
        p.hears("5 bytes", 0, 0, 0, 2, 0, 5);
        Checks.due("noted", 5, p.x.count(0, 9));
    }

    private static void aSamplerIsOneToNine() {
        Checks.sentence("BAD: A sampler: n not 1 .. 9");
        Post p = new Post();
        for (int n : new int[] {0, 10, 255}) {
            p.bad("n " + n, 0, 0, 2, 3, n);
        }
        p.hears("n 1", 0, 0, 0, 2, 0, 1);
        Checks.due("noted", 1, p.x.count(0, 9));
        p.bad("a later one of n 0", 0, 0, 2, 1, 0);
        p.hears("n 9", 0, 0, 0, 2, 1, 9);
        Checks.due("noted", 9, p.x.count(0, 9));
    }

    private static void tooFewBytesAreBad() {
        Checks.sentence("TO READ records: bad if there are too few bytes");
        Post p = new Post();
        p.hears("template of two and one bytes", 0, 0, 0, 0, 0, 1, 2, 4, 2, 0, 1);
        p.bad("two of three", 0, 0, 1, 0, 1, 1, 0, 1, 2);
        p.bad("one of three", 0, 0, 1, 0, 1, 1, 0, 1);
        p.bad("five of two times three", 0, 0, 1, 0, 1, 2, 0, 1, 2, 3, 4, 5);
        p.bad("three of two times three", 0, 0, 1, 0, 1, 2, 0, 1, 2, 3);
        p.hears("three", 1, 0, 0, 1, 0, 1, 1, 0, 1, 2, 3);
        p.hears("two times three", 2, 0, 0, 1, 0, 1, 2, 1, 1, 2, 3, 4, 5, 6);
        Checks.due("row", "3 -1 -1 -1 258 -1 -1 -1 0", Checks.row(p.x, 1));
        Checks.due("row", "6 -1 -1 -1 1029 -1 -1 -1 0", Checks.row(p.x, 2));

        Post full = new Post();
        int[] bytes = new int[64];
        System.arraycopy(new int[] {0, 0, 1, 0, 1, 20, 0}, 0, bytes, 0, 7);
        full.hears("template of three bytes", 0, 0, 0, 0, 0, 1, 1, 3, 3);
        full.bad("20 records in 64 bytes", bytes);
        bytes[5] = 19;
        full.hears("19 records in 64 bytes", 19, bytes);
    }

    private static void tooFewBytesOfAVariableFieldAreBad() {
        Checks.sentence("TO READ records: bad if there are too few bytes (of a variable field)");
        Post p = new Post();
        p.hears("template", 0, 0, 0, 0, 0, 1, 2, 0, 1, 3, 0);
        p.bad("not the byte that tells", 0, 0, 1, 0, 1, 1, 0, 9);
        p.bad("none of one", 0, 0, 1, 0, 1, 1, 0, 9, 1);
        p.bad("one of two", 0, 0, 1, 0, 1, 1, 0, 9, 2, 1);
        p.bad("three of four", 0, 0, 1, 0, 1, 1, 0, 9, 4, 1, 1, 1);
        p.bad("not the second's byte that tells", 0, 0, 1, 0, 1, 2, 0, 9, 1, 1, 9);
        p.hears("one of one", 1, 0, 0, 1, 0, 1, 1, 0, 9, 1, 5);
        p.hears("two of two", 1, 0, 0, 1, 0, 1, 1, 1, 9, 2, 1, 5);
        Checks.due("of one byte", 5, p.x.row(0, 3));
        Checks.due("of two bytes", 261, p.x.row(1, 3));
    }

    private static void aVariableFieldOfNoByteIsBad() {
        Checks.sentence("TO READ records: bad if a variable field has 0 bytes");
        Post p = new Post();
        p.hears("template", 0, 0, 0, 0, 0, 1, 1, 3, 0);
        p.bad("0 bytes", 0, 0, 1, 0, 1, 1, 0, 0);
        p.bad("0 bytes, then 1", 0, 0, 1, 0, 1, 2, 0, 0, 1, 7);
        p.bad("1 byte, then 0", 0, 0, 1, 0, 1, 2, 0, 1, 7, 0);
        p.hears("1 byte", 1, 0, 0, 1, 0, 1, 1, 0, 1, 7);
        p.hears("1 byte of 0", 1, 0, 0, 1, 0, 1, 1, 1, 1, 0);
        Checks.due("7", 7, p.x.row(0, 3));
        Checks.due("0", 0, p.x.row(1, 3));
    }

    private static void aVariableFieldOfFiveBytesIsBad() {
        Checks.sentence("TO READ records: bad if a variable field has more than 4 bytes");
        Post p = new Post();
        p.hears("template", 0, 0, 0, 0, 0, 1, 1, 3, 0);
        p.bad("5 bytes", 0, 0, 1, 0, 1, 1, 0, 5, 0, 0, 0, 0, 1);
        p.bad("255 bytes", 0, 0, 1, 0, 1, 1, 0, 255, 0, 0, 0, 0, 1);
        p.hears("4 bytes", 1, 0, 0, 1, 0, 1, 1, 0, 4, 255, 255, 255, 255);
        p.hears("4 bytes of a small value", 1, 0, 0, 1, 0, 1, 1, 1, 4, 0, 0, 0, 2);
        Checks.due("the greatest value", 4294967295L, p.x.row(0, 3));
        Checks.due("not as few as can be, but not bad", 2, p.x.row(1, 3));
    }

    private static void bytesLeftAreBad() {
        Checks.sentence("TO READ records: bad if some bytes are left behind the last record");
        Post p = new Post();
        p.hears("template of one byte", 0, 0, 0, 0, 0, 1, 1, 0, 1);
        p.hears("a variable template", 0, 0, 0, 0, 1, 1, 1, 3, 0);
        p.bad("one is left", 0, 0, 1, 0, 1, 1, 0, 7, 8);
        p.bad("two are left", 0, 0, 1, 0, 1, 1, 0, 7, 8, 9);
        p.bad("one is left behind two", 0, 0, 1, 0, 1, 2, 0, 7, 8, 9);
        p.bad("one is left behind a variable field", 0, 0, 1, 1, 1, 1, 0, 1, 8, 9);
        p.hears("none is left", 2, 0, 0, 1, 0, 1, 2, 0, 7, 8);
        p.hears("none is left behind a variable field", 1, 0, 0, 1, 1, 1, 1, 2, 2, 8, 9);
    }

    private static void aBadLastRecordSpoilsAll() {
        Checks.sentence("if that is bad, the report is, and nothing happens (not even a row of the records before)");
        Post p = new Post();
        p.hears("template", 0, 0, 0, 0, 0, 1, 1, 3, 0);
        p.bad("the third of three", 0, 0, 1, 0, 1, 3, 0, 1, 7, 1, 8, 0);
        Checks.due("no row", 0, p.x.rows());
        p.hears("all three are good", 3, 0, 0, 1, 0, 1, 3, 0, 1, 7, 1, 8, 1, 9);
        Checks.due("rows", 3, p.x.rows());
    }

    private static void ofAKnownTemplateNothingHappens() {
        Checks.sentence("HEARING: of a template that is known, nothing happens");
        Post p = new Post();
        p.hears("template", 0, 0, 0, 0, 0, 1, 1, 0, 1);
        p.hears("records of another one wait", 0, 0, 0, 1, 0, 2, 1, 50, 7);
        p.nothingOf("again", 0, 0, 0, 0, 1, 1, 0, 1);
        p.nothingOf("with another field", 0, 0, 0, 0, 1, 1, 1, 2);
        p.nothingOf("with more fields", 0, 0, 0, 0, 1, 2, 0, 1, 1, 1);
        p.bad("a bad one is bad though it is known", 0, 0, 0, 0, 1, 1, 8, 1);
        p.hears("read by the first one", 1, 0, 0, 1, 0, 1, 1, 0, 7);
        Checks.due("row", "7 -1 -1 -1 -1 -1 -1 -1 0", Checks.row(p.x, 0));
    }

    private static void templatesAreKnownByFourThings() {
        Checks.sentence("knows templates (by exporter, epoch, number, revision)");
        Post p = new Post();
        int[][] names = {{0, 0, 0, 1}, {1, 0, 0, 1}, {0, 1, 0, 1}, {0, 0, 1, 1}, {0, 0, 0, 2}};
        for (int i = 0; i < names.length; i++) {
            int[] n = names[i];
            p.hears("records of " + i + " wait", 0, n[0], n[1], 1, n[2], n[3], 1, 40 + i, 7);
            Checks.due("one is on the shelf", 1, p.x.count(0, 6) + p.x.count(1, 6));
            p.hears("template " + i, 1, n[0], n[1], 0, n[2], n[3], 1, i, 1);
            p.hears("records of " + i, 1, n[0], n[1], 1, n[2], n[3], 1, 80 + i, 7);
            Checks.due("the row has field " + i, 7, p.x.row(2 * i, i));
            Checks.due("the next one too", 7, p.x.row(2 * i + 1, i));
        }
    }

    private static void waitingRecordsAreReadInOrder() {
        Checks.sentence("those on the shelf that wait for it are read, in the order in which they came there");
        Post p = new Post();
        p.hears("place 30", 0, 0, 0, 1, 0, 1, 1, 30, 1);
        p.hears("of another template", 0, 0, 0, 1, 1, 1, 1, 40, 2);
        p.hears("place 20", 0, 0, 0, 1, 0, 1, 1, 20, 3);
        p.hears("places 10 and 11", 0, 0, 0, 1, 0, 1, 2, 10, 4, 5);
        p.hears("of another exporter", 0, 1, 0, 1, 0, 1, 1, 10, 6);
        p.hears("the template", 4, 0, 0, 0, 0, 1, 1, 0, 1);
        Checks.due("first", 1, p.x.row(0, 0));
        Checks.due("second", 3, p.x.row(1, 0));
        Checks.due("third", 4, p.x.row(2, 0));
        Checks.due("fourth", 5, p.x.row(3, 0));
        Checks.due("another template's stays", 1, p.x.count(0, 6));
        Checks.due("another exporter's stays", 1, p.x.count(1, 6));
        p.nothingOf("they are there no more", 0, 0, 0, 0, 1, 1, 0, 1);
        p.hears("the other template", 1, 0, 0, 0, 1, 1, 1, 0, 1);
        p.hears("the other exporter's", 1, 1, 0, 0, 0, 1, 1, 0, 1);
    }

    private static void waitingRecordsThatAreBadAreSpoilt() {
        Checks.sentence("one that is bad makes no row and is SPOILT");
        Post p = new Post();
        p.hears("too few bytes", 0, 0, 0, 1, 0, 1, 2, 0, 1, 7, 1);
        p.hears("0 bytes", 0, 0, 0, 1, 0, 1, 2, 10, 1, 7, 0);
        p.hears("good", 0, 0, 0, 1, 0, 1, 2, 20, 1, 7, 1, 8);
        p.hears("5 bytes", 0, 0, 0, 1, 0, 1, 1, 30, 5, 1, 2, 3, 4, 5);
        p.hears("a byte is left", 0, 0, 0, 1, 0, 1, 1, 40, 1, 7, 8);
        Checks.due("none is spoilt yet", 0, p.x.count(0, 8));
        p.hears("the template", 2, 0, 0, 0, 0, 1, 1, 3, 0);
        Checks.due("spoilt", 4, p.x.count(0, 8));
        Checks.due("of the other exporter", 0, p.x.count(1, 8));
        Checks.due("the shelf is empty", 0, p.x.count(0, 6));
        Checks.due("rows", 2, p.x.rows());
        Checks.due("none is dropped", 0, p.x.count(0, 7));
    }

    private static void aTemplateIsKnownAsItWasHeard() {
        Checks.sentence("Of another one, it is known (with the bytes that it had when it was heard)");
        Post p = new Post();
        p.hears("template", 0, 0, 0, 0, 0, 1, 1, 0, 1);
        // The helper pokes the very report that was heard.
        p.bad("poked", 9, 9, 9, 9, 9, 9, 9, 9);
        p.hears("records", 2, 0, 0, 1, 0, 1, 2, 0, 7, 8);
        Checks.due("row", "7 -1 -1 -1 -1 -1 -1 -1 0", Checks.row(p.x, 0));
    }

    private static void ofAHeardPlaceNothingHappens() {
        Checks.sentence("Of records, nothing happens if the place of one of them was heard before");
        Post p = new Post();
        p.hears("template", 0, 0, 0, 0, 0, 1, 1, 0, 1);
        p.hears("places 50 to 52", 3, 0, 0, 1, 0, 1, 3, 50, 1, 2, 3);
        p.nothingOf("the same", 0, 0, 1, 0, 1, 3, 50, 1, 2, 3);
        p.nothingOf("the last is 50", 0, 0, 1, 0, 1, 3, 48, 1, 2, 3);
        p.nothingOf("the first is 52", 0, 0, 1, 0, 1, 3, 52, 1, 2, 3);
        p.nothingOf("all are around 51", 0, 0, 1, 0, 1, 1, 51, 1);
        p.nothingOf("of a template that is not known", 0, 0, 1, 2, 9, 3, 52, 1, 2, 3);
        p.nothingOf("though they could not be read", 0, 0, 1, 0, 1, 2, 52, 1, 2, 3);
        p.hears("the last is 49", 3, 0, 0, 1, 0, 1, 3, 47, 1, 2, 3);
        p.hears("the first is 53", 3, 0, 0, 1, 0, 1, 3, 53, 1, 2, 3);
        p.hears("place 0", 1, 0, 0, 1, 0, 1, 1, 0, 1);
        p.nothingOf("place 0 again", 0, 0, 1, 0, 1, 1, 0, 1);
        p.hears("place 99", 1, 0, 0, 1, 0, 1, 1, 99, 1);
        p.nothingOf("place 99 again", 0, 0, 1, 0, 1, 1, 99, 1);
        p.hears("place 60 waits", 0, 0, 0, 1, 2, 9, 1, 60, 1);
        p.nothingOf("what waits was heard", 0, 0, 1, 0, 1, 1, 60, 1);
    }

    private static void placesAreHeardOfAnExporterAndEpoch() {
        Checks.sentence("was heard before of this exporter and epoch");
        Post p = new Post();
        for (int e = 0; e < 2; e++) {
            for (int epoch = 0; epoch <= 5; epoch++) {
                p.hears("template", 0, e, epoch, 0, 0, 1, 1, 0, 1);
                p.hears("place 0", 1, e, epoch, 1, 0, 1, 1, 0, 1);
                p.hears("place 99", 1, e, epoch, 1, 0, 1, 1, 99, 1);
                p.hears("place 0 again", 0, e, epoch, 1, 0, 1, 1, 0, 1);
                p.hears("place 99 again", 0, e, epoch, 1, 0, 1, 1, 99, 1);
            }
        }
        Checks.due("rows", 24, p.x.rows());
    }

    private static void badRecordsAreNotHeard() {
        Checks.sentence("if that is bad, the report is, and nothing happens (its places are not heard)");
        Post p = new Post();
        p.hears("template", 0, 0, 0, 0, 0, 1, 1, 0, 1);
        p.hears("place 0", 1, 0, 0, 1, 0, 1, 1, 0, 1);
        p.bad("places 10 and 11", 0, 0, 1, 0, 1, 2, 10, 1);
        Checks.due("no place is lost", 0, p.x.count(0, 5));
        p.hears("places 10 and 11 again", 2, 0, 0, 1, 0, 1, 2, 10, 1, 2);
        Checks.due("nine are lost", 9, p.x.count(0, 5));
    }

    private static void theShelfHasTheBytesOfThen() {
        Checks.sentence("they come on the shelf, with the bytes that the report has then");
        Post p = new Post();
        p.hears("waits", 0, 0, 0, 1, 0, 1, 1, 0, 5);
        // The helper pokes the very report that waits.
        p.hears("another one from the same report", 0, 1, 1, 1, 2, 2, 1, 9, 6);
        p.bad("poked", 9, 9, 9, 9, 9, 9, 9, 9);
        p.hears("the template", 1, 0, 0, 0, 0, 1, 1, 0, 1);
        Checks.due("row", "5 -1 -1 -1 -1 -1 -1 -1 0", Checks.row(p.x, 0));
        p.hears("the other template", 1, 1, 1, 0, 2, 2, 1, 0, 1);
        Checks.due("row", "6 -1 -1 -1 -1 -1 -1 -1 1", Checks.row(p.x, 1));
    }

    private static void theShelfHoldsFive() {
        Checks.sentence("if 5 are there, the one that has been there longest is DROPPED");
        Post p = new Post();
        for (int i = 0; i < 5; i++) {
            p.hears("waits", 0, i == 1 ? 1 : 0, 0, 1, 0, 1, 1, i, 100 + i);
            Checks.due("on the shelf", i + 1, p.x.count(0, 6) + p.x.count(1, 6));
            Checks.due("dropped", 0, p.x.count(0, 7) + p.x.count(1, 7));
        }
        p.hears("the sixth", 0, 0, 0, 1, 0, 1, 1, 5, 105);
        Checks.due("dropped of 0", 1, p.x.count(0, 7));
        Checks.due("on the shelf of 0", 4, p.x.count(0, 6));
        Checks.due("on the shelf of 1", 1, p.x.count(1, 6));
        p.hears("the seventh", 0, 0, 0, 1, 0, 1, 1, 6, 106);
        Checks.due("dropped of 1", 1, p.x.count(1, 7));
        Checks.due("dropped of 0 still", 1, p.x.count(0, 7));
        Checks.due("on the shelf of 0", 5, p.x.count(0, 6));
        p.hears("the template of 1 finds none", 0, 1, 0, 0, 0, 1, 1, 0, 1);
        p.hears("the template of 0", 5, 0, 0, 0, 0, 1, 1, 0, 1);
        for (int i = 0; i < 5; i++) {
            Checks.due("row " + i, 102 + i, p.x.row(i, 0));
        }
        Checks.due("none was spoilt", 0, p.x.count(0, 8));
        for (int i = 0; i < 5; i++) {
            p.hears("those that were read have left their room", 0, 0, 1, 1, 0, 1, 1, i, 7);
        }
        Checks.due("none of these is dropped", 1, p.x.count(0, 7));
        Checks.due("five are on the shelf again", 5, p.x.count(0, 6));
    }

    private static void droppedPlacesWereHeard() {
        Checks.sentence("Then all their places are HEARD (and stay so when the report is dropped)");
        Post p = new Post();
        for (int i = 0; i < 6; i++) {
            p.hears("waits", 0, 0, 0, 1, 0, 1, 2, 10 * i, 1, 2);
        }
        Checks.due("one was dropped", 1, p.x.count(0, 7));
        Checks.due("its places are not lost", 40, p.x.count(0, 5));
        p.nothingOf("place 0", 0, 0, 1, 0, 1, 1, 0, 7);
        p.nothingOf("place 1", 0, 0, 1, 0, 1, 1, 1, 7);
        p.hears("the template", 10, 0, 0, 0, 0, 1, 1, 0, 1);
        p.nothingOf("place 1 with the template known", 0, 0, 1, 0, 1, 1, 1, 7);
        p.hears("place 2", 1, 0, 0, 1, 0, 1, 1, 2, 7);
    }

    private static void spoiltPlacesWereHeard() {
        Checks.sentence("Then all their places are HEARD (and stay so when the report is spoilt)");
        Post p = new Post();
        p.hears("three records, two bytes", 0, 0, 0, 1, 0, 1, 3, 10, 1, 2);
        p.hears("the template", 0, 0, 0, 0, 0, 1, 1, 0, 1);
        Checks.due("spoilt", 1, p.x.count(0, 8));
        p.nothingOf("place 10", 0, 0, 1, 0, 1, 1, 10, 7);
        p.nothingOf("place 12", 0, 0, 1, 0, 1, 1, 12, 7);
        p.hears("place 9", 1, 0, 0, 1, 0, 1, 1, 9, 7);
        p.hears("place 13", 1, 0, 0, 1, 0, 1, 1, 13, 7);
        Checks.due("none is lost", 0, p.x.count(0, 5));
    }

    /** Twenty templates: of both exporters, of number 0, revisions 1 to 10. */
    private static Post withTwentyTemplates() {
        Post p = new Post();
        for (int i = 0; i < 20; i++) {
            p.hears("template " + i, 0, i % 2, 0, 0, 0, 1 + i / 2, 1, 0, 1);
        }
        return p;
    }

    private static void twentyTemplatesAreKnown() {
        Checks.sentence("17: it would be a 21st template");
        Post p = withTwentyTemplates();
        p.tooMuch("a new revision", 0, 0, 0, 0, 11, 1, 0, 1);
        p.tooMuch("a new number", 1, 0, 0, 1, 1, 1, 0, 1);
        p.tooMuch("a new epoch", 0, 1, 0, 0, 1, 1, 0, 1);
        p.nothingOf("the first is known", 0, 0, 0, 0, 1, 1, 0, 1);
        p.nothingOf("the 20th is known", 1, 0, 0, 0, 10, 1, 0, 1);
        p.hears("records of the first", 1, 0, 0, 1, 0, 1, 1, 0, 7);
        p.hears("records of the 20th", 1, 1, 0, 1, 0, 10, 1, 0, 7);
        p.hears("a sampler", 0, 0, 0, 2, 0, 3);
        Checks.due("noted", 3, p.x.count(0, 9));
    }

    private static void aTwentyFirstTemplateChangesNothing() {
        Checks.sentence("17: it would be a 21st template (nothing happens then)");
        Post p = withTwentyTemplates();
        p.hears("records wait", 0, 0, 0, 1, 0, 11, 1, 0, 7);
        p.tooMuch("the one that they wait for", 0, 0, 0, 0, 11, 1, 0, 1);
        Checks.due("they wait still", 1, p.x.count(0, 6));
        p.hears("more records wait", 0, 0, 0, 1, 0, 11, 1, 1, 7);
        Checks.due("they too", 2, p.x.count(0, 6));
        p.tooMuch("again", 0, 0, 0, 0, 11, 1, 0, 1);
    }

    /** So many rows of exporter 0, at most 80, from place 0 of epoch 0 on. */
    private static Post withRows(int rows) {
        Post p = new Post();
        p.hears("template of three bytes", 0, 0, 0, 0, 0, 1, 1, 3, 3);
        p.hears("template of one byte", 0, 0, 0, 0, 1, 1, 1, 0, 1);
        int[] bytes = new int[64];
        System.arraycopy(new int[] {0, 0, 1, 0, 1, 19, 0}, 0, bytes, 0, 7);
        for (int i = 0; i < 4; i++) {
            bytes[6] = 19 * i;
            p.hears("19 rows", 19, bytes);
        }
        for (int place = 76; place < rows; place++) {
            p.hears("a row", 1, 0, 0, 1, 1, 1, 1, place, 7);
        }
        Checks.due("rows", rows, p.x.rows());
        return p;
    }

    private static void eightyRowsByRecords() {
        Checks.sentence("17: there would be more than 80 rows (by records)");
        Post p = withRows(78);
        p.tooMuch("81", 0, 0, 1, 1, 1, 3, 90, 7, 8, 9);
        Checks.due("their places were not heard", 0, p.x.count(0, 5));
        p.hears("80", 2, 0, 0, 1, 1, 1, 2, 90, 7, 8);
        Checks.due("rows", 80, p.x.rows());
        p.tooMuch("81 by one", 0, 0, 1, 1, 1, 1, 93, 7);
        Checks.due("its place was not heard", 12, p.x.count(0, 5));
        Checks.index("no row 80", () -> p.x.row(80, 0));
    }

    private static void eightyRowsByTheShelf() {
        Checks.sentence("17: there would be more than 80 rows (by what waits for a template)");
        Post p = withRows(76);
        p.hears("three wait", 0, 0, 1, 1, 0, 1, 3, 0, 7, 8, 9);
        p.hears("two wait", 0, 0, 1, 1, 0, 1, 2, 10, 7, 8);
        p.tooMuch("81", 0, 1, 0, 0, 1, 1, 0, 1);
        Checks.due("they wait still", 2, p.x.count(0, 6));
        p.hears("the template is not known: one more waits", 0, 0, 1, 1, 0, 1, 1, 20, 7);
        p.tooMuch("82", 0, 1, 0, 0, 1, 1, 0, 1);
        Post q = withRows(76);
        q.hears("two wait", 0, 0, 1, 1, 0, 1, 2, 0, 7, 8);
        q.hears("two wait for another", 0, 0, 1, 1, 1, 1, 2, 20, 7, 8);
        q.hears("two more wait", 0, 0, 1, 1, 0, 1, 2, 10, 7, 8);
        q.hears("80", 4, 0, 1, 0, 0, 1, 1, 0, 1);
        Checks.due("rows", 80, q.x.rows());
        Checks.due("those for another wait", 1, q.x.count(0, 6));
        q.tooMuch("82", 0, 1, 0, 1, 1, 1, 0, 1);
    }

    private static void theRowsAreCountedAsIfNoneWereBad() {
        Checks.sentence("17: if none were bad, there would be more than 80 rows");
        Post p = withRows(79);
        p.hears("two, of which one could be read, wait", 0, 0, 1, 1, 0, 1, 2, 0, 7);
        p.tooMuch("81 if it were not bad", 0, 1, 0, 0, 1, 1, 0, 1);
        Checks.due("it is not spoilt", 0, p.x.count(0, 8));
        Post q = withRows(79);
        q.hears("one that can't be read waits", 0, 0, 1, 1, 0, 1, 1, 0, 7, 8);
        q.hears("80 if it were not bad", 0, 0, 1, 0, 0, 1, 1, 0, 1);
        Checks.due("it is spoilt", 1, q.x.count(0, 8));
        Checks.due("rows", 79, q.x.rows());
        Post r = new Post();
        r.hears("81 records in two bytes wait", 0, 0, 1, 1, 0, 1, 81, 0, 7, 8);
        r.tooMuch("81 if it were not bad", 0, 1, 0, 0, 1, 1, 0, 1);
        Post s = new Post();
        s.hears("80 records in two bytes wait", 0, 0, 1, 1, 0, 1, 80, 0, 7, 8);
        s.hears("80 if it were not bad", 0, 0, 1, 0, 0, 1, 1, 0, 1);
        Checks.due("it is spoilt", 1, s.x.count(0, 8));
    }

    private static void withEightyRowsOtherThingsAreHeard() {
        Checks.sentence("17: there would be more than 80 rows (what makes no row is heard all the same)");
        Post p = withRows(80);
        p.nothingOf("places that were heard", 0, 0, 1, 1, 1, 1, 79, 7);
        p.nothingOf("a known template", 0, 0, 0, 0, 1, 1, 3, 3);
        p.hears("a sampler", 0, 0, 0, 2, 0, 3);
        Checks.due("noted", 3, p.x.count(0, 9));
        p.hears("records of an unknown template", 0, 0, 1, 1, 0, 1, 1, 0, 7);
        Checks.due("wait", 1, p.x.count(0, 6));
        p.hears("a template that none waits for", 0, 0, 2, 0, 0, 1, 1, 0, 1);
        p.tooMuch("it is known: records of it are too much", 0, 2, 1, 0, 1, 1, 0, 7);
        p.tooMuch("the one that is waited for", 0, 1, 0, 0, 1, 1, 0, 1);
    }

    private static void badGoesBeforeTooMuch() {
        Checks.sentence("17: IllegalArgumentException: it is bad (and stands before what is too much)");
        Post p = withTwentyTemplates();
        p.bad("a bad 21st template", 0, 0, 0, 0, 11, 1, 0, 5);
        Post q = withRows(80);
        q.bad("a bad head", 0, 0, 1, 1, 0, 1, 90, 7);
        q.bad("records that can't be read", 0, 0, 1, 1, 1, 2, 90, 7);
    }

    private static void theFirstSamplerIsNoted() {
        Checks.sentence("Of a sampler, its n is the exporter's NOTED one if it is the first one");
        for (int e = 0; e < 2; e++) {
            Post p = new Post();
            Checks.due("none yet", 0, p.x.count(e, 9));
            p.hears("of epoch 0, byte 3 is 0", 0, e, 0, 2, 0, 4);
            Checks.due("noted", 4, p.x.count(e, 9));
            Checks.due("of the other none", 0, p.x.count(1 - e, 9));
            p.hears("the other's first, though it is no later one", 0, 1 - e, 0, 2, 0, 6);
            Checks.due("noted", 6, p.x.count(1 - e, 9));
            Checks.due("each its own", 4, p.x.count(e, 9));
        }
    }

    private static void aLaterEpochIsNoted() {
        Checks.sentence("if it is of a later epoch than the one that was noted last");
        Post p = new Post();
        p.hears("epoch 2", 0, 0, 2, 2, 5, 4);
        p.nothingOf("epoch 1 with byte 3 of 255", 0, 1, 2, 255, 7);
        p.nothingOf("epoch 2 with a lesser byte 3", 0, 2, 2, 4, 7);
        p.hears("epoch 3 with byte 3 of 0", 0, 0, 3, 2, 0, 8);
        Checks.due("noted", 8, p.x.count(0, 9));
        p.nothingOf("epoch 2 with byte 3 of 255", 0, 2, 2, 255, 7);
        p.hears("epoch 5", 0, 0, 5, 2, 0, 9);
        Checks.due("noted", 9, p.x.count(0, 9));
        p.nothingOf("epoch 4", 0, 4, 2, 1, 7);
    }

    private static void aGreaterByteThreeIsNoted() {
        Checks.sentence("or of the same one with a greater byte 3");
        Post p = new Post();
        p.hears("byte 3 is 5", 0, 0, 2, 2, 5, 4);
        p.nothingOf("the same", 0, 2, 2, 5, 7);
        p.nothingOf("one less", 0, 2, 2, 4, 7);
        p.hears("one more", 0, 0, 2, 2, 6, 7);
        Checks.due("noted", 7, p.x.count(0, 9));
        p.nothingOf("the one before that", 0, 2, 2, 5, 3);
        p.hears("255", 0, 0, 2, 2, 255, 2);
        Checks.due("noted", 2, p.x.count(0, 9));
        p.nothingOf("nothing is greater", 0, 2, 2, 255, 3);
        p.hears("the next epoch begins at 0", 0, 0, 3, 2, 0, 1);
        Checks.due("noted", 1, p.x.count(0, 9));
        p.hears("and goes on from there", 0, 0, 3, 2, 1, 5);
        Checks.due("noted", 5, p.x.count(0, 9));
    }
}
