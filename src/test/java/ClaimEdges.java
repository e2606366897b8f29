/** Terms 3 and promises 12 to 18: claims, places and sheets at their edges. */
final class ClaimEdges extends Edges {
    /** Program 0 turns 0 and 1 round, 1 puts a 1 at the end, 2 drops each 1; sentence 1: no 1; 2: last is 1. */
    private static AnyLength twoPrograms() {
        AnyLength x = new AnyLength();
        x.spot(0, 0, 0, 0, 2);
        x.spot(0, 0, 1, 0, 1);
        x.end(1, 0, 2);
        x.spot(2, 0, 1, 0, 0);
        x.make(1, 4, 1);
        x.make(2, 6, 1);
        return x;
    }

    /** Each letter moves one part alone: 0 the first point, 1 the first spot, 2 the second spot, 3 the last point. */
    private static AnyLength fourParts() {
        AnyLength x = ofLetters(4);
        for (int i = 0; i < 6; i++) {
            int next = (i + 1) % 6;
            for (int c = 0; c < 4; c++) {
                x.point(0, i, c, c == 0 ? next : i);
                x.spot(0, i, c, c == 1 ? next : i, c < 2 ? 0 : 1 + c);
                x.spot(1, i, c, c == 2 ? next : i, c == 2 ? 0 : 1 + c);
                x.point(1, i, c, c == 3 ? next : i);
            }
        }
        return x;
    }

    /** All 1296 places in the sheet, and then the parts of fourParts() as at first again. */
    private static AnyLength allInTheSheet() {
        AnyLength x = fourParts();
        x.write(0, 0, 1, 1);
        for (int i = 0; i < 24; i++) {
            x.point(0, i / 4, i % 4, 0);
            x.point(1, i / 4, i % 4, 0);
            x.spot(0, i / 4, i % 4, 0, 1 + i % 4);
            x.spot(1, i / 4, i % 4, 0, 1 + i % 4);
        }
        return x;
    }

    // ---- terms: claims

    @Says("A CLAIM: a SENTENCE ahead, PROGRAMS (1 .. 2, each reads what the one ahead writes), a SENTENCE behind:")
    static void theSecondReadsWhatTheFirstWrites() {
        AnyLength x = twoPrograms();
        due("a 1 put, each 1 dropped: no 1", x.claim(0, 1, 2, 1), 1);
        due("a 1 put, each 1 dropped: last 1", x.claim(0, 1, 2, 2), 0);
        due("each 1 dropped, a 1 put: last 1", x.claim(0, 2, 1, 2), 1);
        due("each 1 dropped, a 1 put: no 1", x.claim(0, 2, 1, 1), 0);
        due("a program behind itself", x.claim(2, 0, 0, 2), 1);
        due("the same alone", x.claim(2, 0, -1, 2), 0);
    }

    @Says("for each ROW that IS SO by the first,")
    static void rowsThatAreNotSoAreNotLookedAt() {
        AnyLength x = twoPrograms();
        x.spot(3, 0, 1, 1, 0);
        x.end(3, 1, STOPS);
        due("it stops behind a 1", x.claim(0, 3, -1, 0), 0);
        due("no row with a 1 is looked at", x.claim(1, 3, -1, 1), 1);
        due("only rows with a 1 last are looked at", x.claim(2, 3, -1, 0), 0);
    }

    @Says("for each ROW that IS SO by the first,")
    static void ofNoRowEachClaimIsTrue() {
        AnyLength x = twoPrograms();
        makeNone(x, 3);
        x.end(0, 0, STOPS);
        due("one program", x.claim(3, 0, -1, 3), 1);
        due("two programs", x.claim(3, 0, 0, 3), 1);
        due("no picture", x.picture(3, 0, 0, 3, -1), NONE);
    }

    @Says("each PROGRAM writes a ROW,")
    static void eachProgramHasToWriteARow() {
        AnyLength x = twoPrograms();
        x.end(3, 0, STOPS);
        due("one that stops", x.claim(0, 3, -1, 0), 0);
        due("the first of two stops", x.claim(0, 3, 0, 0), 0);
        due("the second of two stops", x.claim(0, 0, 3, 0), 0);
        due("none stops", x.claim(0, 0, 0, 0), 1);
    }

    @Says("and the last one IS SO by the other one.")
    static void onlyTheLastRowHasToBeSo() {
        AnyLength x = twoPrograms();
        due("the row between is not so", x.claim(1, 0, 0, 1), 1);
        due("the last one is not so", x.claim(1, 0, -1, 1), 0);
        due("the row between is so, the last one is not", x.claim(0, 2, 0, 1), 0);
    }

    @Says("It is TRUE, or there is a PICTURE: the shortest ROW for which it is not so,")
    static void aPictureMayHaveNoLetter() {
        AnyLength x = twoPrograms();
        duePicture("the last letter of none", x, claim(0, 3, -1, 2));
        x.end(3, 0, STOPS);
        duePicture("it stops at once", x, claim(0, 3, -1, 0));
        duePicture("the second stops at once", x, claim(0, 0, 3, 0));
    }

    @Says("It is TRUE, or there is a PICTURE: the shortest ROW for which it is not so,")
    static void aShorterRowIsThePictureThoughALongerOneIsFirstByLetters() {
        AnyLength x = new AnyLength();
        x.point(1, 0, 0, 1);
        x.point(1, 1, 0, 2);
        x.point(1, 0, 1, 3);
        x.holds(1, 2, false);
        x.holds(1, 3, false);
        duePicture("1 and 00", x, claim(0, 0, -1, 1), 1);
        x.holds(1, 3, true);
        duePicture("00 alone", x, claim(0, 0, -1, 1), 0, 0);
    }

    /** Letter 0 leads to point 5 and letter 1 to point 1: what is met first is not the least number. */
    @Says("of like ones the first by letters.")
    static void ofLikeOnesTheFirstByLetters() {
        AnyLength x = new AnyLength();
        x.point(1, 0, 0, 5);
        x.point(1, 0, 1, 1);
        x.point(1, 5, 1, 3);
        x.point(1, 1, 0, 2);
        x.holds(1, 2, false);
        x.holds(1, 3, false);
        duePicture("01 and 10", x, claim(0, 0, -1, 1), 0, 1);
        x.holds(1, 3, true);
        duePicture("10 alone", x, claim(0, 0, -1, 1), 1, 0);
        AnyLength y = ofLetters(3);
        y.make(1, 7, 0);
        y.make(2, 1, 0);
        duePicture("two alike", y, claim(0, 0, -1, 1), 0, 0);
        duePicture("one that is less", y, claim(0, 0, -1, 2), 1, 0);
    }

    /** A counter: the length by 5 ahead; by 6, by 6 and by 6 in the programs and behind. One length of 1080 fails. */
    private static AnyLength counter() {
        AnyLength x = ofLetters(3);
        makeRest(x, 0, 5, 4);
        for (int i = 0; i < 6; i++) {
            int next = (i + 1) % 6;
            for (int c = 0; c < 3; c++) x.spot(0, i, c, next, i == 5 ? 1 : 0);
            x.end(0, i, i == 5 ? 2 : 3);
            x.spot(1, i, 0, next, i == 5 ? 1 : 0);
            x.spot(1, i, 1, i, i == 5 ? 2 : 3);
            x.spot(1, i, 2, i, 3);
            x.point(1, i, 0, next);
            x.point(1, i, 1, i == 5 ? 0 : 1);
            x.point(1, i, 2, 1);
        }
        x.holds(1, 0, false);
        return x;
    }

    @Says("It is TRUE, or there is a PICTURE: the shortest ROW for which it is not so,")
    static void aPictureMayBeOverAThousandLong() {
        AnyLength x = counter();
        due("met", x.met(0, 0, 1, 1), 1080);
        due("claim", x.claim(0, 0, 1, 1), 0);
        due("length", x.picture(0, 0, 1, 1, -1), 1079);
        for (int i : new int[] {0, 539, 1078}) due("letter " + i, x.picture(0, 0, 1, 1, i), 0);
        due("behind", x.picture(0, 0, 1, 1, 1079), NONE);
        x.holds(1, 0, true);
        due("true", x.claim(0, 0, 1, 1), 1);
    }

    /** Of all 1296 places only the last is bad, and it is met last: its end alone is written as a 1. */
    @Says("It is TRUE, or there is a PICTURE: the shortest ROW for which it is not so,")
    static void thePlaceThatIsMetLastMayBeTheOnlyBadOne() {
        AnyLength x = fourParts();
        for (int i = 0; i < 6; i++) {
            x.holds(0, i, i == 5);
            x.end(0, i, i == 5 ? 2 : 1);
            x.spot(1, i, 1, i, i == 5 ? 2 : 1);
            x.point(1, i, 0, 1);
            x.point(1, i, 1, i == 5 ? 0 : 1);
        }
        x.holds(1, 0, false);
        due("met", x.met(0, 0, 1, 1), 1296);
        due("claim", x.claim(0, 0, 1, 1), 0);
        duePicture("five of each", x, claim(0, 0, 1, 1), 0, 0, 0, 0, 0, 1, 1, 1, 1, 1, 2, 2, 2, 2, 2, 3, 3, 3, 3, 3);
        x.write(0, 0, 1, 1);
        due("it is in the sheet and bad", x.check(0, 0, 1, 1), 3);
    }

    // ---- terms: places

    @Says({"PLACES of a CLAIM: a POINT of the SENTENCE ahead, a SPOT of each PROGRAM (of one: the second 0),",
        "a POINT of the SENTENCE behind, where all are together behind some letters of a ROW",
        "216 times the first POINT, and 36 times the first SPOT, and 6 times the second SPOT, and the last POINT."})
    static void placesAreNumberedByTheirFourParts() {
        AnyLength x = fourParts();
        AnyLength y = new AnyLength();
        due("all that there are", x.met(0, 0, 1, 1), 1296);
        due("the first point alone", x.met(0, 2, -1, 2), 6);
        due("the first point alone: the last", x.place(0, 2, -1, 2, 5), 1080);
        due("the first spot alone", x.met(2, 0, -1, 2), 6);
        due("the first spot alone: the last", x.place(2, 0, -1, 2, 5), 180);
        due("the second spot alone", x.met(2, 2, 1, 2), 6);
        due("the second spot alone: the last", x.place(2, 2, 1, 2, 5), 30);
        due("the last point alone", x.met(2, 2, -1, 1), 6);
        due("the last point alone: the last", x.place(2, 2, -1, 1, 5), 5);
        due("nothing moves", y.met(0, 0, 0, 0), 1);
        due("nothing moves", y.place(0, 0, 0, 0, 0), 0);
    }

    @Says("(what was written so far being read at once by the next one):")
    static void whatIsWrittenIsReadAtOnce() {
        AnyLength x = new AnyLength();
        x.spot(0, 0, 0, 0, 5);
        for (int i = 0; i < 6; i++) {
            x.spot(1, i, 0, (i + 1) % 6, 5);
            x.point(1, i, 0, (i + 1) % 6);
        }
        due("two spots and four points at each 0", x.met(0, 0, 1, 1), 3);
        due("behind 0", x.place(0, 0, 1, 1, 1), 6 * 2 + 4);
        due("behind 00", x.place(0, 0, 1, 1, 2), 6 * 4 + 2);
        x.spot(0, 0, 0, 0, 0);
        due("nothing is read of nothing", x.place(0, 0, 1, 1, 1), NONE);
    }

    @Says("(Of one PROGRAM the second SPOT is never moved.)")
    static void ofOneProgramTheSecondSpotIsNeverMoved() {
        AnyLength x = new AnyLength();
        x.spot(1, 2, 0, 1, 1);
        x.end(1, 2, STOPS);
        x.sheet(0, true);
        x.sheet(12, true);
        due("of one program 12 leads to 12, and is not bad", x.check(0, 0, -1, 0), 0);
        due("of two programs 12 leads to 6", x.check(0, 0, 1, 0), 2);
        x.sheet(6, true);
        due("of two programs 12 is bad", x.check(0, 0, 1, 0), 3);
        due("of one program 6 leads to 6", x.check(0, 0, -1, 0), 0);
    }

    /** The last point is not left, so a second spot that were 0 behind a letter would lead from 13 to 1. */
    @Says("(Of one PROGRAM the second SPOT is never moved.)")
    static void ofOneProgramTheSecondSpotIsNotSetTo0Either() {
        AnyLength x = new AnyLength();
        for (int c = 0; c < 2; c++) x.point(1, 1, c, 1);
        x.sheet(0, true);
        x.sheet(13, true);
        due("13 leads to 13", x.check(0, 0, -1, 1), 0);
        x.sheet(13, false);
        x.sheet(1 + 6 * 5, true);
        due("31 leads to 31", x.check(0, 0, -1, 1), 0);
        x.holds(1, 1, false);
        due("31 is bad by its last point", x.check(0, 0, -1, 1), 3);
    }

    @Says("MET are PLACES at which any ROW is (whether it IS SO or not).")
    static void placesOfRowsThatAreNotSoAreMetToo() {
        AnyLength x = new AnyLength();
        x.make(1, 3, 6);
        due("six", x.met(1, 0, -1, 0), 6);
        for (int p = 0; p < 6; p++) x.holds(1, p, false);
        due("six of no row that is so", x.met(1, 0, -1, 0), 6);
        due("the row of none is at 0", x.place(1, 0, -1, 0, 0), 0);
    }

    @Says("MET are PLACES at which any ROW is (whether it IS SO or not).")
    static void whatTheEndsWriteMovesNoPlace() {
        AnyLength x = new AnyLength();
        x.make(1, 3, 6);
        x.end(0, 0, 1);
        for (int c = 0; c < 2; c++) x.spot(0, 0, c, 0, 0);
        due("nothing but an end is written", x.met(0, 0, -1, 1), 1);
        x.end(0, 0, STOPS);
        due("it stops", x.met(0, 0, -1, 1), 1);
    }

    @Says("BAD is a PLACE, if the first POINT HOLDS,")
    static void aPlaceWhosePointDoesNotHoldIsNotBad() {
        AnyLength x = new AnyLength();
        x.end(0, 0, STOPS);
        makeNone(x, 1);
        x.sheet(0, true);
        due("it holds", x.check(0, 0, -1, 0), 3);
        due("it does not", x.check(1, 0, -1, 0), 0);
    }

    @Says("and by the ends some PROGRAM writes no ROW or the last one IS not SO.")
    static void theEndsAreReadToTheLastPoint() {
        AnyLength x = new AnyLength();
        x.point(1, 0, 1, 1);
        x.point(1, 1, 1, 2);
        x.point(1, 2, 1, 3);
        x.holds(1, 2, false);
        x.spot(0, 0, 1, 0, 0);
        x.spot(0, 0, 0, 0, 0);
        x.end(0, 0, 10);
        x.sheet(0, true);
        due("11 at the end is not so", x.check(0, 0, -1, 1), 3);
        x.end(0, 0, 2);
        due("1 at the end is so", x.check(0, 0, -1, 1), 0);
        x.end(1, 0, 2);
        due("1 and the 1 of the second are not so", x.check(0, 0, 1, 1), 3);
        x.end(1, 0, 10);
        due("1 and the 11 of the second are so", x.check(0, 0, 1, 1), 0);
        x.end(1, 0, STOPS);
        due("the second stops", x.check(0, 0, 1, 0), 3);
        x.spot(1, 0, 1, 1, 2);
        due("the second does not stop where the end of the first leads it", x.check(0, 0, 1, 0), 0);
        x.end(1, 1, STOPS);
        due("the second stops where the end of the first leads it", x.check(0, 0, 1, 0), 3);
    }

    // ---- terms: sheets

    @Says("A SHEET: PLACES that are told (none at first).")
    static void noneIsInTheSheetAtFirst() {
        AnyLength x = new AnyLength();
        due("count", x.count(1), 0);
        due("the first", x.sheet(0, false), 0);
        due("the last", x.sheet(1295, false), 0);
        due("check", x.check(0, 0, -1, 0), 1);
    }

    @Says({"IT IS KEPT, if 0 is in it, and with each PLACE in it that to which each LETTER leads;",
        "and no PLACE in it is BAD."})
    static void placesThatAreNotMetCountToo() {
        AnyLength x = new AnyLength();
        x.sheet(0, true);
        due("0 alone", x.check(0, 0, -1, 0), 0);
        x.point(0, 5, 1, 4);
        x.sheet(1080, true);
        due("by 1 point 5 leads out", x.check(0, 0, -1, 0), 2);
        x.sheet(864, true);
        due("where it leads is in it", x.check(0, 0, -1, 0), 0);
        x.end(0, 5, STOPS);
        x.sheet(180, true);
        due("a bad one that is not met", x.check(0, 0, -1, 0), 3);
        due("the claim is true all the same", x.claim(0, 0, -1, 0), 1);
    }

    @Says("IT IS KEPT, if 0 is in it, and with each PLACE in it that to which each LETTER leads;")
    static void eachLetterIsFollowed() {
        for (int k = 2; k <= 4; k++) {
            for (int c = 0; c < k; c++) {
                AnyLength x = ofLetters(k);
                x.sheet(0, true);
                x.point(1, 0, c, 1);
                due("of " + k + ": letter " + c, x.check(0, 0, -1, 1), 2);
                x.sheet(1, true);
                due("of " + k + ": letter " + c + " stays in it", x.check(0, 0, -1, 1), 0);
            }
        }
    }

    @Says("What fails first: 0 it is kept; 1 the PLACE 0 is not in it; 2 some LETTER leads out of it; 3 some PLACE in it is BAD.")
    static void ofSeveralFaultsTheFirstIsTold() {
        AnyLength x = new AnyLength();
        x.make(1, 3, 2);
        x.sheet(217, true);
        x.sheet(1, true);
        due("0 is not in it, 217 leads out, 1 is bad", x.check(1, 0, -1, 1), 1);
        x.sheet(0, true);
        due("1 is bad, and leads out", x.check(1, 0, -1, 1), 2);
        x.sheet(216, true);
        due("1 is bad", x.check(1, 0, -1, 1), 3);
        x.sheet(1, false);
        x.sheet(216, false);
        due("it is kept", x.check(1, 0, -1, 1), 0);
        x.sheet(0, false);
        due("0 alone is not in it", x.check(1, 0, -1, 1), 1);
    }

    /** The bad place has a lower number than the one that leads out. */
    @Says("What fails first: 0 it is kept; 1 the PLACE 0 is not in it; 2 some LETTER leads out of it; 3 some PLACE in it is BAD.")
    static void aWayOutIsToldAheadOfABadPlaceOfALowerNumber() {
        AnyLength x = new AnyLength();
        x.end(0, 0, STOPS);
        x.sheet(0, true);
        x.point(0, 5, 0, 5);
        x.point(0, 5, 1, 4);
        due("0 is bad", x.check(0, 0, -1, 0), 3);
        x.sheet(1080, true);
        due("1080 leads to 864", x.check(0, 0, -1, 0), 2);
    }

    @Says("(If one is KEPT, the CLAIM is TRUE.)")
    static void whatIsMetIsKeptJustIfTheClaimIsTrue() {
        AnyLength x = twoPrograms();
        for (int program = 0; program < 4; program++) {
            for (int second = -1; second < 4; second++) {
                for (int behind = 0; behind < 3; behind++) {
                    x.write(2, program, second, behind);
                    int is = x.claim(2, program, second, behind);
                    due("claim 2 " + program + " " + second + " " + behind, x.check(2, program, second, behind),
                        is == 1 ? 0 : 3);
                }
            }
        }
    }

    // ---- promises 12 and 13

    @Says(promise = 12, value = "A CLAIM of one PROGRAM (second = -1) or two: 1 TRUE, 0.")
    static void claimOfOneAndOfTwo() {
        AnyLength x = twoPrograms();
        due("of one", x.claim(0, 1, -1, 2), 1);
        due("of one, not true", x.claim(0, 1, -1, 1), 0);
        due("of two, the second is program 0", x.claim(0, 1, 0, 2), 0);
        due("of two", x.claim(0, 1, 3, 2), 1);
        due("ahead and behind are one sentence", x.claim(1, 2, 2, 1), 1);
    }

    @Says(promise = 12, value = "UNKNOWN.")
    static void claimRefusesWhatIsNotThere() {
        refusesBeyond(UNKNOWN, "claim", given(7, 3, 3, 7), range(0, 7), range(0, 3), range(-1, 3), range(0, 7));
        refused(UNKNOWN, "claim", 0, -1, -1, 0);
    }

    @Says(promise = 13, value = {"How long its PICTURE is (i = -1),", "its i-th LETTER;"})
    static void pictureTellsItsLengthAndLetters() {
        AnyLength x = ofLetters(3);
        x.make(1, 1, 0);
        x.make(2, 5, 1);
        x.not(3, 1);
        duePicture("sorted, with 1 first", x, claim(2, 0, -1, 3), 1);
        duePicture("1 first, not sorted", x, claim(2, 0, -1, 1), 1, 0);
    }

    @Says(promise = 13, value = "NONE: it is TRUE,")
    static void aClaimThatIsTrueHasNoPicture() {
        AnyLength x = new AnyLength();
        for (int i : new int[] {-1, 0, 1, Integer.MAX_VALUE}) due("picture " + i, x.picture(0, 0, -1, 0, i), NONE);
    }

    @Says(promise = 13, value = "or there is no such.")
    static void behindItsLastLetterAPictureHasNone() {
        AnyLength x = twoPrograms();
        due("length", x.picture(0, 3, -1, 1, -1), 1);
        due("the only letter", x.picture(0, 3, -1, 1, 0), 1);
        due("behind it", x.picture(0, 3, -1, 1, 1), NONE);
        due("far behind it", x.picture(0, 3, -1, 1, Integer.MAX_VALUE), NONE);
        due("of none the first", x.picture(0, 3, -1, 2, 0), NONE);
    }

    @Says(promise = 13, value = "UNKNOWN;")
    static void pictureRefusesWhatIsNotThere() {
        refusesBeyond(UNKNOWN, "picture", given(7, 3, 3, 7, -1),
            range(0, 7), range(0, 3), range(-1, 3), range(0, 7), fixed());
    }

    @Says(promise = 13, value = "BAD: i is below -1.")
    static void pictureRefusesALetterBelow() {
        for (long i : new long[] {-2, -9, Integer.MIN_VALUE}) {
            refused(BAD, "picture", 7, 3, 3, 7, i);
            refused(BAD, "picture", 7, 0, -1, 0, i);
        }
        AnyLength x = new AnyLength();
        due("of a claim that is true", x.picture(0, 0, -1, 0, -2), BAD);
        x.end(0, 0, STOPS);
        due("of a claim that is not", x.picture(0, 0, -1, 0, -2), BAD);
    }

    // ---- promises 14 and 15

    @Says(promise = 14, value = "How many PLACES of a CLAIM are MET.")
    static void metTellsOneToAll() {
        due("one", new AnyLength().met(7, 3, -1, 7), 1);
        due("one of two programs", new AnyLength().met(7, 3, 3, 7), 1);
        due("all", fourParts().met(0, 0, 1, 1), 1296);
    }

    @Says(promise = 14, value = "UNKNOWN.")
    static void metRefusesWhatIsNotThere() {
        refusesBeyond(UNKNOWN, "met", given(7, 3, 3, 7), range(0, 7), range(0, 3), range(-1, 3), range(0, 7));
    }

    @Says(promise = 15, value = "The i-th of them, by number;")
    static void placeTellsThemByNumber() {
        AnyLength x = new AnyLength();
        x.point(0, 0, 0, 5);
        x.point(0, 0, 1, 3);
        x.point(0, 3, 0, 1);
        due("met", x.met(0, 0, -1, 1), 4);
        int[] places = {0, 216, 648, 1080};
        for (int i = 0; i < 4; i++) due("place " + i, x.place(0, 0, -1, 1, i), places[i]);
        AnyLength all = fourParts();
        for (int i : new int[] {0, 1, 700, 1295}) due("of all " + i, all.place(0, 0, 1, 1, i), i);
    }

    @Says(promise = 15, value = "NONE.")
    static void beyondTheLastThereIsNoPlace() {
        AnyLength x = new AnyLength();
        due("the only one", x.place(0, 0, -1, 0, 0), 0);
        for (int i : new int[] {1, 1295, 1296, Integer.MAX_VALUE, -1, -2, Integer.MIN_VALUE}) {
            due("place " + i, x.place(0, 0, -1, 0, i), NONE);
        }
        due("behind all", fourParts().place(0, 0, 1, 1, 1296), NONE);
    }

    @Says(promise = 15, value = "UNKNOWN.")
    static void placeRefusesWhatIsNotThere() {
        refusesBeyond(UNKNOWN, "place", given(7, 3, 3, 7, 0),
            range(0, 7), range(0, 3), range(-1, 3), range(0, 7), fixed());
    }

    // ---- promises 16 to 18

    @Says(promise = 16, value = "A PLACE (0 .. 1295) is in THE SHEET, or not: how it was: 1, 0.")
    static void sheetTellsHowItWas() {
        AnyLength x = new AnyLength();
        for (int place : new int[] {0, 1295, 648}) {
            due("off " + place, x.sheet(place, true), 0);
            due("on " + place, x.sheet(place, true), 1);
            due("on still " + place, x.sheet(place, false), 1);
            due("off again " + place, x.sheet(place, false), 0);
        }
        due("none is left", x.count(1), 0);
    }

    @Says(promise = 16, value = "BAD.")
    static void sheetRefusesPlacesThatAreNone() {
        refusesBeyond(BAD, "sheet", given(648, 1), range(0, 1295), fixed());
        refusesBeyond(BAD, "sheet", given(648, 0), range(0, 1295), fixed());
    }

    @Says(promise = 17, value = "THE SHEET is all that is MET of a CLAIM:")
    static void writeLeavesNothingOfWhatWas() {
        AnyLength x = new AnyLength();
        x.make(1, 3, 2);
        x.sheet(5, true);
        x.sheet(1295, true);
        x.write(1, 0, -1, 0);
        due("in it", x.sheet(0, true), 1);
        due("in it", x.sheet(216, true), 1);
        due("no more", x.sheet(5, false), 0);
        due("no more", x.sheet(1295, false), 0);
        due("count", x.count(1), 2);
    }

    @Says(promise = 17, value = "how many PLACES.")
    static void writeTellsOneToAll() {
        AnyLength x = fourParts();
        due("all", x.write(0, 0, 1, 1), 1296);
        due("count of all", x.count(1), 1296);
        due("the last is in it", x.sheet(1295, true), 1);
        due("the first is in it", x.sheet(0, true), 1);
        due("one", x.write(2, 2, -1, 2), 1);
        due("count of one", x.count(1), 1);
        x.end(2, 0, STOPS);
        due("of a claim that is not true", x.write(0, 2, -1, 2), 6);
    }

    @Says(promise = 17, value = "UNKNOWN.")
    static void writeRefusesWhatIsNotThere() {
        refusesBeyond(UNKNOWN, "write", given(7, 3, 3, 7), range(0, 7), range(0, 3), range(-1, 3), range(0, 7));
    }

    @Says(promise = 18, value = "What fails first of THE SHEET for a CLAIM: 0 .. 3.")
    static void checkOfAllPlacesLooksAtTheLast() {
        AnyLength x = allInTheSheet();
        due("all are in it", x.check(0, 0, 1, 1), 0);
        x.holds(1, 5, false);
        due("as all lead to 0, one that is not met is bad", x.check(0, 0, 1, 1), 3);
        x.holds(1, 5, true);
        x.end(1, 5, STOPS);
        due("the last second spot", x.check(0, 0, 1, 1), 3);
        due("of one program", x.check(0, 0, -1, 1), 0);
        x.sheet(1295, false);
        x.point(0, 5, 3, 5);
        x.spot(0, 5, 3, 5, 4);
        x.spot(1, 5, 3, 5, 4);
        x.point(1, 4, 3, 5);
        due("only the last is not in it, and 1294 leads there", x.check(0, 0, 1, 1), 2);
    }

    @Says(promise = 18, value = "What fails first of THE SHEET for a CLAIM: 0 .. 3.")
    static void checkOfTheLastPlaceAlone() {
        AnyLength x = new AnyLength();
        x.sheet(0, true);
        x.sheet(1295, true);
        due("it leads to 0", x.check(0, 0, 0, 1), 0);
        x.holds(1, 5, false);
        due("it is bad", x.check(0, 0, 0, 1), 3);
        x.point(0, 5, 1, 1);
        due("it leads out", x.check(0, 0, 0, 1), 2);
    }

    @Says(promise = 18, value = "What fails first of THE SHEET for a CLAIM: 0 .. 3.")
    static void checkChangesNothing() {
        AnyLength x = new AnyLength();
        due("1", x.check(0, 0, -1, 0), 1);
        due("nothing is put in", x.count(1), 0);
        x.sheet(0, true);
        due("0", x.check(0, 0, -1, 0), 0);
        x.end(0, 0, STOPS);
        due("3", x.check(0, 0, -1, 0), 3);
        x.point(0, 0, 0, 1);
        due("2", x.check(0, 0, -1, 0), 2);
        due("nothing is taken out", x.count(1), 1);
        due("nothing is taken out", x.sheet(0, true), 1);
    }

    @Says(promise = 18, value = "UNKNOWN.")
    static void checkRefusesWhatIsNotThere() {
        refusesBeyond(UNKNOWN, "check", given(7, 3, 3, 7), range(0, 7), range(0, 3), range(-1, 3), range(0, 7));
        due("no place is told", new AnyLength().check(8, 0, -1, 0), UNKNOWN);
    }
}
