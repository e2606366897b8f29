/** Terms 4 and promises 19 to 21: letters that stay and programs that agree, at their edges. */
final class StayEdges extends Edges {
    // ---- terms: a letter stays

    @Says("A LETTER STAYS by a SENTENCE and a PROGRAM, if in each ROW that IS SO,")
    static void rowsThatAreNotSoDoNotCount() {
        AnyLength x = new AnyLength();
        x.spot(0, 0, 1, 0, 0);
        x.make(1, 4, 1);
        makeNone(x, 2);
        due("each 1 is dropped", x.stays(0, 0, 1), 0);
        due("of rows without a 1", x.stays(1, 0, 1), 1);
        due("of no row", x.stays(2, 0, 1), 1);
        due("the other letter", x.stays(0, 0, 0), 1);
    }

    @Says("and for which a ROW is written,")
    static void rowsForWhichNoneIsWrittenDoNotCount() {
        AnyLength x = new AnyLength();
        x.spot(0, 0, 1, 1, 0);
        stayIn(x, 0, 1);
        due("the first 1 is dropped", x.stays(0, 0, 1), 0);
        x.end(0, 1, STOPS);
        due("but then none is written", x.stays(0, 0, 1), 1);
        due("but then none is written", x.witness(0, 0, 1), NONE);
        x.end(0, 0, STOPS);
        due("none is ever written", x.stays(0, 0, 0), 1);
    }

    @Says("it is as often as in that.")
    static void aLetterMayStandElsewhere() {
        AnyLength x = new AnyLength();
        x.spot(0, 0, 1, 1, 0);
        stayIn(x, 0, 1);
        x.end(0, 1, 2);
        due("the first 1 is put to the end", x.stays(0, 0, 1), 1);
        due("the other letter", x.stays(0, 0, 0), 1);
        x.end(0, 1, 10);
        due("two are put there", x.stays(0, 0, 1), 0);
        x.end(0, 1, 1);
        due("a 0 is put there", x.witness(0, 0, 1), 1);
        due("one 0 too many", x.witness(0, 0, 0), 1);
    }

    @Says("it is as often as in that.")
    static void eachLetterIsCountedInWordsOfTwo() {
        AnyLength x = ofLetters(4);
        x.spot(0, 0, 3, 0, 20);
        due("3 becomes 33", x.witness(0, 0, 3), 1);
        due("2 stays", x.stays(0, 0, 2), 1);
        x.spot(0, 0, 3, 0, 5 + 4 * 3 + 2);
        due("3 becomes 32: 3 stays", x.stays(0, 0, 3), 1);
        due("3 becomes 32: 2 does not", x.stays(0, 0, 2), 0);
        x.spot(0, 0, 3, 0, 5 + 4 * 2 + 3);
        due("3 becomes 23: 3 stays", x.stays(0, 0, 3), 1);
        due("3 becomes 23: 2 does not", x.stays(0, 0, 2), 0);
    }

    // ---- terms: the witness

    @Says("If not: WITNESS: how long the shortest ROW is for which it is not so.")
    static void theWitnessMayHaveNoLetter() {
        AnyLength x = new AnyLength();
        x.end(0, 0, 1);
        due("a 0 at the end", x.witness(0, 0, 0), 0);
        due("no 1", x.witness(0, 0, 1), NONE);
        makeRest(x, 1, 2, 1);
        due("of odd rows", x.witness(1, 0, 0), 1);
    }

    /** Points go round by six and spots by five: both come together at 29. */
    @Says("If not: WITNESS: how long the shortest ROW is for which it is not so.")
    static void theWitnessMayBeLong() {
        AnyLength x = new AnyLength();
        makeRest(x, 0, 6, 5);
        for (int s = 0; s < 5; s++) for (int c = 0; c < 2; c++) x.spot(0, s, c, (s + 1) % 5, 1 + c);
        x.end(0, 4, 2);
        due("29", x.witness(0, 0, 1), 29);
        due("the other letter", x.witness(0, 0, 0), NONE);
    }

    /**
     * Rows of 0 alone, by five ahead and by six in the program, which drops each sixth 0. At 17, the first time
     * that a row is so and written, two are dropped and the end puts two; the next time is 47.
     */
    @Says("If not: WITNESS: how long the shortest ROW is for which it is not so.")
    static void theWitnessMayComeBehindARoundThatIsEven() {
        AnyLength x = new AnyLength();
        for (int p = 0; p < 5; p++) {
            x.point(0, p, 0, (p + 1) % 5);
            x.point(0, p, 1, 5);
            x.holds(0, p, p == 17 % 5);
        }
        for (int c = 0; c < 2; c++) x.point(0, 5, c, 5);
        x.holds(0, 5, false);
        for (int s = 0; s < 6; s++) {
            x.spot(0, s, 0, (s + 1) % 6, s == 5 ? 0 : 1);
            x.end(0, s, s == 17 % 6 ? 5 : STOPS);
        }
        due("47", x.witness(0, 0, 0), 47);
        x.end(0, 5, 1);
        due("one is put", x.witness(0, 0, 0), 17);
        x.end(0, 5, 5);
        x.spot(0, 5, 0, 0, 1);
        due("none is dropped", x.witness(0, 0, 0), 17);
        x.end(0, 5, 0);
        due("none is dropped and none is put", x.witness(0, 0, 0), NONE);
    }

    // ---- terms: agree

    @Says("Two PROGRAMS AGREE by a SENTENCE, if for each ROW that IS SO")
    static void programsAgreeByRowsThatAreSoAlone() {
        AnyLength x = new AnyLength();
        x.spot(0, 0, 1, 0, 1);
        x.make(1, 4, 1);
        makeNone(x, 2);
        due("a 1 differs", x.agree(0, 0, 1), 0);
        due("rows without a 1", x.agree(1, 0, 1), 1);
        due("no row", x.agree(2, 0, 1), 1);
        due("a program with itself", x.agree(0, 0, 0), 1);
    }

    @Says("both write no ROW,")
    static void bothOrNoneStop() {
        AnyLength x = new AnyLength();
        x.end(0, 0, STOPS);
        due("the first stops", x.agree(0, 0, 1), 0);
        due("the other one stops", x.agree(0, 1, 0), 0);
        x.end(1, 0, STOPS);
        due("both stop", x.agree(0, 0, 1), 1);
        x.spot(1, 0, 0, 0, 0);
        x.spot(1, 0, 1, 0, 10);
        due("both stop, and would have written others", x.agree(0, 0, 1), 1);
    }

    @Says("both write no ROW,")
    static void whereNoRowComesOfItAllIsFree() {
        AnyLength x = new AnyLength();
        for (int q = 0; q < 2; q++) {
            x.spot(q, 0, 1, 1, q == 0 ? 10 : 0);
            for (int c = 0; c < 2; c++) x.spot(q, 1, c, 1, q == 0 ? 10 : 0);
            x.end(q, 1, STOPS);
        }
        due("behind a 1 both stop for ever", x.agree(0, 0, 1), 1);
        x.end(0, 1, 0);
        x.end(1, 1, 0);
        due("behind a 1 both write", x.agree(0, 0, 1), 0);
    }

    @Says("or both the same.")
    static void theSameMayBeWrittenSoonerOrLater() {
        AnyLength x = new AnyLength();
        for (int kept = 0; kept < 3; kept++) {
            for (int c = 0; c < 2; c++) x.spot(1, kept, c, 1 + c, kept);
            x.end(1, kept, kept);
        }
        due("one letter later", x.agree(0, 0, 1), 1);
        due("one letter sooner", x.agree(0, 1, 0), 1);
        x.end(1, 2, 0);
        due("a 1 at the end is lost", x.agree(0, 0, 1), 0);
        x.end(1, 2, 6);
        due("a 0 too many ahead of it", x.agree(0, 0, 1), 0);
    }

    @Says("or both the same.")
    static void theRowOfNoneMayDifferAlone() {
        AnyLength x = new AnyLength();
        for (int c = 0; c < 2; c++) x.spot(0, 0, c, 1, 1 + c);
        stayIn(x, 0, 1);
        due("no row differs", x.agree(0, 0, 1), 1);
        x.end(0, 0, 1);
        due("the row of none differs", x.agree(0, 0, 1), 0);
        x.make(1, 2, 1);
        due("rows with a 1", x.agree(1, 0, 1), 1);
    }

    /** Points 0 .. 4 and then, by a 1, 0 again; all else leads to 5, where none is so. */
    private static void makeFives(AnyLength x) {
        for (int p = 0; p < 6; p++) {
            for (int c = 0; c < x.count(0); c++) x.point(0, p, c, 5);
            x.holds(0, p, p == 0);
        }
        for (int p = 0; p < 4; p++) x.point(0, p, 0, p + 1);
        x.point(0, 4, 1, 0);
    }

    /** One writes 30 letters in its first three rounds of five, the other one in the last three. */
    @Says("or both the same.")
    static void oneMayBeThirtyLettersAhead() {
        AnyLength x = ofLetters(4);
        makeFives(x);
        for (int s = 0; s < 6; s++) {
            for (int c = 0; c < 2; c++) {
                int next = c == 0 ? s : (s + 1) % 6;
                int word = 5 + (s % 3 * 7 + c * 11 + 3) % 16;
                x.spot(0, s, c, next, s < 3 ? word : 0);
                x.spot(1, s, c, next, s < 3 ? 0 : word);
            }
            for (int q = 0; q < 2; q++) x.end(q, s, s == 0 ? 0 : STOPS);
        }
        int last = x.of(1, 5, 1, 1);
        due("30 ahead", x.agree(0, 0, 1), 1);
        due("30 behind", x.agree(0, 1, 0), 1);
        x.spot(1, 5, 1, 0, last == 20 ? 19 : last + 1);
        due("the last letter differs", x.agree(0, 0, 1), 0);
        x.spot(1, 5, 1, 0, 1 + (last - 5) / 4);
        due("one letter is lost", x.agree(0, 0, 1), 0);
        x.spot(1, 5, 1, 0, last);
        due("as it was", x.agree(0, 0, 1), 1);
        for (int q = 0; q < 2; q++) x.end(q, 3, 0);
        due("both write where one is ahead", x.agree(0, 0, 1), 0);
    }

    /**
     * A way up and down of 25 steps, five points by five spots: 0 and 1 lead up, 2 and 3 down. One writes two
     * letters at each step up, the other one at each step down; a row is written where both are at the foot.
     */
    @Says("or both the same.")
    static void oneMayBe48LettersAhead() {
        AnyLength x = ofLetters(4);
        makeFives(x);
        for (int p = 1; p < 5; p++) x.point(0, p, 2, p - 1);
        x.point(0, 0, 3, 4);
        for (int s = 0; s < 6; s++) {
            for (int c = 0; c < 4; c++) {
                int by = c == 1 ? 1 : c == 3 ? -1 : 0;
                int next = s == 5 || s + by < 0 ? 5 : s + by;
                x.spot(0, s, c, next, c < 2 ? 20 : 0);
                x.spot(1, s, c, next, c < 2 ? 0 : 20);
            }
            for (int q = 0; q < 2; q++) x.end(q, s, s == 0 ? 0 : STOPS);
        }
        due("48 ahead", x.agree(0, 0, 1), 1);
        due("48 behind", x.agree(0, 1, 0), 1);
        x.spot(1, 4, 2, 4, 19);
        due("another letter on the way down", x.agree(0, 0, 1), 0);
        x.spot(1, 4, 2, 4, 20);
        x.end(0, 4, 0);
        x.end(1, 4, 0);
        due("both write high above the foot", x.agree(0, 0, 1), 0);
    }

    /** A 0 and a 1 lead to the same spots; there one is two letters ahead, and all but the end is lost. */
    @Says("or both the same.")
    static void eachWayToASpotHasToBringTheSame() {
        AnyLength x = ofLetters(4);
        for (int q = 0; q < 2; q++) {
            for (int c = 0; c < 4; c++) {
                x.spot(q, 0, c, c < 2 ? 1 : 2, q == 0 && c < 2 ? 5 + 4 * 2 + 1 : 0);
                x.spot(q, 1, c, 2, 0);
                x.spot(q, 2, c, 2, 0);
            }
            x.end(q, 2, STOPS);
        }
        x.end(1, 1, 5 + 4 * 2 + 1);
        due("both bring 21", x.agree(0, 0, 1), 1);
        int[] others = {5 + 4 * 3 + 1, 5 + 4 * 2 + 2, 5 + 4 + 2, 3, 2, 0};
        for (int word : others) {
            x.spot(0, 0, 1, 1, word);
            due("a 1 brings word " + word, x.agree(0, 0, 1), 0);
            due("a 1 brings word " + word + ", turned", x.agree(0, 1, 0), 0);
        }
    }

    /** Letter 0 moves the point, 1 the first spot, 2 the other spot: 216 places where the three are together. */
    @Says("Two PROGRAMS AGREE by a SENTENCE, if for each ROW that IS SO")
    static void allPointsAndSpotsMayBeMet() {
        AnyLength x = ofLetters(3);
        for (int i = 0; i < 6; i++) {
            int next = (i + 1) % 6;
            for (int c = 0; c < 3; c++) {
                x.point(0, i, c, c == 0 ? next : i);
                x.spot(0, i, c, c == 1 ? next : i, 1 + c);
                x.spot(1, i, c, c == 2 ? next : i, 1 + c);
            }
            x.holds(0, i, i == 5);
        }
        due("the same", x.agree(0, 0, 1), 1);
        x.end(1, 5, 1);
        due("another end of the last spot", x.agree(0, 0, 1), 0);
        x.end(2, 5, STOPS);
        due("asked of others behind it: a spot to which no row leads does not count", x.agree(1, 2, 3), 1);
        x.end(2, 0, 1);
        due("asked of others that differ", x.agree(1, 2, 3), 0);
    }

    /** What was found for one question leaves nothing behind for the next one. */
    @Says(promise = 21, value = "Whether two PROGRAMS AGREE: 1, 0.")
    static void eachQuestionIsAskedAnew() {
        AnyLength x = ofLetters(4);
        for (int c = 0; c < 4; c++) {
            x.spot(0, 0, c, 1, 20);
            x.spot(1, 0, c, 1, 0);
            for (int q = 0; q < 2; q++) x.spot(q, 1, c, 1, 4);
        }
        x.end(1, 1, 20);
        due("33 ahead", x.agree(0, 0, 1), 1);
        for (int word : new int[] {5, 10, 15, 20, 5}) {
            int one = (word - 5) % 4 + 1;
            for (int c = 0; c < 4; c++) {
                x.spot(0, 0, c, 1, word);
                for (int q = 0; q < 2; q++) x.spot(q, 1, c, 1, one);
            }
            x.end(1, 1, word);
            due("word " + word + " ahead", x.agree(0, 0, 1), 1);
            x.end(1, 1, word == 20 ? 5 : 20);
            due("word " + word + " ahead, another end", x.agree(0, 0, 1), 0);
        }
    }

    /** The lead grows by two at each letter, and no end makes up for it. */
    @Says("or both the same.")
    static void aLeadThatGrowsForEverIsNotMadeUpFor() {
        AnyLength x = new AnyLength();
        for (int c = 0; c < 2; c++) {
            x.spot(0, 0, c, 0, 5);
            x.spot(1, 0, c, 0, 0);
        }
        makeRest(x, 1, 6, 5);
        due("of all rows", x.agree(0, 0, 1), 0);
        due("of rows of five and more", x.agree(1, 0, 1), 0);
        due("the other way round", x.agree(1, 1, 0), 0);
    }

    // ---- promises 19 to 21

    @Says(promise = 19, value = "Whether a LETTER STAYS: 1, 0.")
    static void staysTellsOneOrNone() {
        AnyLength x = ofLetters(4);
        for (int c = 0; c < 4; c++) due("letter " + c, x.stays(7, 3, c), 1);
        x.spot(3, 0, 3, 0, 3);
        int[] stays = {1, 1, 0, 0};
        for (int c = 0; c < 4; c++) due("3 becomes 2: letter " + c, x.stays(7, 3, c), stays[c]);
    }

    @Says(promise = 19, value = "UNKNOWN.")
    static void staysRefusesWhatIsNotThere() {
        refusesBeyond(UNKNOWN, "stays", given(7, 3, 2), range(0, 7), range(0, 3), range(0, 2));
    }

    @Says(promise = 20, value = "How long the WITNESS is;")
    static void witnessTellsHowLong() {
        AnyLength x = new AnyLength();
        x.spot(3, 0, 0, 1, 0);
        x.spot(3, 1, 0, 1, 5);
        x.spot(3, 1, 1, 1, 2);
        due("0", x.witness(7, 3, 0), 1);
        x.end(3, 1, 1);
        due("the end puts it", x.witness(7, 3, 0), 2);
    }

    @Says(promise = 20, value = "NONE: it STAYS.")
    static void aLetterThatStaysHasNoWitness() {
        AnyLength x = ofLetters(4);
        for (int c = 0; c < 4; c++) due("letter " + c, x.witness(7, 3, c), NONE);
    }

    @Says(promise = 20, value = "UNKNOWN.")
    static void witnessRefusesWhatIsNotThere() {
        refusesBeyond(UNKNOWN, "witness", given(7, 3, 2), range(0, 7), range(0, 3), range(0, 2));
    }

    @Says(promise = 21, value = "Whether two PROGRAMS AGREE: 1, 0.")
    static void agreeTellsOneOrNone() {
        AnyLength x = ofLetters(4);
        due("as at first", x.agree(7, 3, 2), 1);
        x.spot(3, 0, 3, 0, 3);
        due("3 becomes 2", x.agree(7, 3, 2), 0);
        x.make(7, 4, 3);
        due("3 becomes 2, of rows without", x.agree(7, 3, 2), 1);
    }

    @Says(promise = 21, value = "UNKNOWN.")
    static void agreeRefusesWhatIsNotThere() {
        refusesBeyond(UNKNOWN, "agree", given(7, 3, 3), range(0, 7), range(0, 3), range(0, 3));
    }
}
