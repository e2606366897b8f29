/** Terms 1 and promises 1 to 8: letters and sentences at their edges. */
final class SentenceEdges extends Edges {
    // ---- terms: letters, rows, sentences

    @Says("4; 2 at first).")
    static void lettersAreTwoToFour() {
        due("at first", new AnyLength().count(0), 2);
        for (int k = 2; k <= 4; k++) {
            AnyLength x = ofLetters(k);
            due("of " + k + ": the last letter", x.letter(k - 1), 1);
            due("of " + k + ": one beyond", x.letter(k), UNKNOWN);
            due("of " + k + ": one below", x.letter(-1), UNKNOWN);
        }
    }

    @Says("A ROW: letters, maybe none.")
    static void aRowMayHaveNoLetter() {
        AnyLength x = new AnyLength();
        due("is", x.is(0), 1);
        due("how many", x.rows(0, 0), 1);
        x.holds(0, 0, false);
        due("is not", x.is(0), 0);
        due("how many are not", x.rows(0, 0), 0);
        due("a claim fails by it", x.claim(1, 0, -1, 0), 0);
        due("a witness", x.unless(1, 0, -1), 0);
    }

    @Says("SENTENCES 0 .. 7:")
    static void eightSentencesStandEachForItself() {
        AnyLength x = new AnyLength();
        for (int s = 0; s < 8; s++) x.holds(s, s % 6, false);
        for (int s = 0; s < 8; s++) {
            for (int p = 0; p < 6; p++) due("about " + s + p, x.about(s, p, 2), p == s % 6 ? 0 : 1);
        }
        due("sentence 7", x.is(7), 1);
        due("sentence 6", x.is(6), 0);
        due("sentence 8", x.is(8), UNKNOWN);
        due("sentence -1", x.is(-1), UNKNOWN);
    }

    @Says("six POINTS 0 .. 5 each;")
    static void sixPointsCanBeWalked() {
        AnyLength x = new AnyLength();
        for (int p = 0; p < 5; p++) {
            x.point(7, p, 1, p + 1);
            x.holds(7, p, false);
        }
        dueSo(x, 7, 0, "", "1", "11", "111", "1111", "111110");
        dueSo(x, 7, 1, "11111");
    }

    @Says("for each POINT and LETTER the next POINT;")
    static void eachPointAndLetterHasItsNextPoint() {
        AnyLength x = ofLetters(4);
        for (int i = 0; i < 192; i++) x.point(i / 24, i / 4 % 6, i % 4, (i * 5 + i / 6) % 6);
        for (int i = 0; i < 192; i++) {
            due("about " + i, x.about(i / 24, i / 4 % 6, i % 4), (i * 5 + i / 6) % 6);
        }
    }

    @Says("each POINT HOLDS or not.")
    static void eachPointHoldsForItself() {
        AnyLength x = ofLetters(4);
        for (int i = 0; i < 48; i++) x.holds(i / 6, i % 6, i % 5 < 2);
        for (int i = 0; i < 48; i++) due("about " + i, x.about(i / 6, i % 6, 4), i % 5 < 2 ? 1 : 0);
    }

    @Says({"A ROW is walked from POINT 0 on;", "it IS SO by the SENTENCE, if the POINT where it ends HOLDS."})
    static void onlyThePointAtTheEndCounts() {
        AnyLength x = new AnyLength();
        x.point(0, 0, 0, 1);
        x.point(0, 0, 1, 2);
        x.point(0, 2, 0, 3);
        x.holds(0, 2, false);
        x.holds(0, 3, false);
        dueSo(x, 0, 1, "", "0", "00", "11", "101");
        dueSo(x, 0, 0, "1", "10");
        x.holds(0, 0, false);
        dueSo(x, 0, 0, "", "11", "101");
        dueSo(x, 0, 1, "0");
    }

    @Says("(At first: always POINT 0, which HOLDS, as all do.)")
    static void atFirstAllPointsLeadTo0AndHold() {
        for (int k = 2; k <= 4; k++) {
            AnyLength x = ofLetters(k);
            for (int s = 0; s < 8; s++) dueSentence("at first, of " + k, x, s);
        }
    }

    // ---- terms: to make

    @Says({"TO MAKE a SENTENCE by a KIND and a number a:", "0 all ROWS;"})
    static void kind0IsAllRows() {
        AnyLength x = ofLetters(3);
        x.make(1, 0, 7);
        dueSo(x, 1, 1, "", "0", "2", "00", "210", "012012012012012012012012");
    }

    @Says("1 no LETTER is less than the one ahead of it;")
    static void kind1TakesNoneOneAndAlike() {
        AnyLength x = ofLetters(4);
        x.make(1, 1, 0);
        dueSo(x, 1, 1, "", "0", "3", "00", "33", "03", "0123", "0033", "000111222333");
        dueSo(x, 1, 0, "10", "32", "30", "0132", "3330", "00010", "103", "3200");
    }

    @Says("2 LETTER a is in it;")
    static void kind2TakesNotTheRowOfNone() {
        AnyLength x = ofLetters(3);
        x.make(1, 2, 2);
        x.make(2, 2, 0);
        dueSo(x, 1, 0, "", "0", "1", "0101");
        dueSo(x, 1, 1, "2", "02", "20", "0120", "22");
        dueSo(x, 2, 0, "", "1", "2", "12");
        dueSo(x, 2, 1, "0", "10", "01");
    }

    @Says("3 its length is divided by a (1 .. 6);")
    static void kind3DividesLengthsFrom0On() {
        for (int a = 1; a <= 6; a++) {
            AnyLength x = new AnyLength();
            x.make(0, 3, a);
            for (int length = 0; length <= 24; length++) {
                due(length + " by " + a, x.is(0), length % a == 0 ? 1 : 0);
                x.letter(length % 2);
            }
        }
    }

    @Says("4 no LETTER a is in it;")
    static void kind4TakesTheRowOfNone() {
        AnyLength x = ofLetters(3);
        x.make(1, 4, 2);
        x.make(2, 4, 0);
        dueSo(x, 1, 1, "", "0", "1", "0101");
        dueSo(x, 1, 0, "2", "02", "20", "0120");
        dueSo(x, 2, 1, "", "1", "2");
        dueSo(x, 2, 0, "0", "10", "01");
    }

    @Says("5 LETTER a is first in it;")
    static void kind5TakesNotTheRowOfNone() {
        AnyLength x = ofLetters(3);
        x.make(1, 5, 2);
        x.make(2, 5, 0);
        dueSo(x, 1, 1, "2", "20", "2011", "22");
        dueSo(x, 1, 0, "", "0", "02", "1222");
        dueSo(x, 2, 1, "0", "02", "01");
        dueSo(x, 2, 0, "", "1", "20", "100");
    }

    @Says("6 LETTER a is last in it;")
    static void kind6TakesNotTheRowOfNone() {
        AnyLength x = ofLetters(3);
        x.make(1, 6, 2);
        x.make(2, 6, 0);
        dueSo(x, 1, 1, "2", "02", "1102", "22");
        dueSo(x, 1, 0, "", "0", "20", "2221");
        dueSo(x, 2, 1, "0", "20", "10");
        dueSo(x, 2, 0, "", "1", "02", "001");
    }

    @Says("7 no two one behind the other are alike.")
    static void kind7TakesNoneOneAndApart() {
        AnyLength x = ofLetters(4);
        x.make(1, 7, 0);
        dueSo(x, 1, 1, "", "0", "3", "03", "30", "010", "0123", "3231");
        dueSo(x, 1, 0, "00", "33", "011", "0112", "3321", "1223");
    }

    @Says("It has as few POINTS as can be;")
    static void asFewPointsAsCanBe() {
        for (int k = 2; k <= 4; k++) {
            int[] few = {1, k + 1, 2, 6, 2, 3, 2, k + 2};
            for (int kind = 0; kind < 8; kind++) {
                AnyLength x = ofLetters(k);
                int a = kind == 3 ? 6 : k - 1;
                due("of " + k + ": make(0, " + kind + ", " + a + ")", x.make(0, kind, a), few[kind]);
            }
            for (int a = 1; a <= 6; a++) due("divided by " + a, ofLetters(k).make(0, 3, a), a);
        }
    }

    @Says("they are numbered as they are met first, from 0 on, POINT by POINT, LETTER by LETTER;")
    static void pointsAreNumberedAsTheyAreMet() {
        AnyLength x = ofLetters(3);
        x.make(0, 1, 0);
        dueSentence("kind 1", x, 0, given3(0, 1, 2, 1), given3(3, 1, 2, 1), given3(3, 3, 2, 1), given3(3, 3, 3, 0));
        x.make(0, 5, 0);
        dueSentence("0 first", x, 0, given3(1, 2, 2, 0), given3(1, 1, 1, 1), given3(2, 2, 2, 0));
        x.make(0, 5, 1);
        dueSentence("1 first", x, 0, given3(1, 2, 1, 0), given3(1, 1, 1, 0), given3(2, 2, 2, 1));
        x.make(0, 5, 2);
        dueSentence("2 first", x, 0, given3(1, 1, 2, 0), given3(1, 1, 1, 0), given3(2, 2, 2, 1));
        x.make(0, 6, 0);
        dueSentence("0 last", x, 0, given3(1, 0, 0, 0), given3(1, 0, 0, 1));
        x.make(0, 2, 2);
        dueSentence("2 in it", x, 0, given3(0, 0, 1, 0), given3(1, 1, 1, 1));
        x.make(0, 4, 1);
        dueSentence("no 1 in it", x, 0, given3(0, 1, 0, 1), given3(1, 1, 1, 0));
        x.make(0, 7, 0);
        dueSentence("kind 7", x, 0, given3(1, 2, 3, 1), given3(4, 2, 3, 1), given3(1, 4, 3, 1), given3(1, 2, 4, 1),
            given3(4, 4, 4, 0));
        x.make(0, 3, 6);
        dueSentence("by six", x, 0, given3(1, 1, 1, 1), given3(2, 2, 2, 0), given3(3, 3, 3, 0), given3(4, 4, 4, 0),
            given3(5, 5, 5, 0), given3(0, 0, 0, 0));
    }

    private static int[] given3(int... values) {
        return values;
    }

    @Says("they are numbered as they are met first, from 0 on, POINT by POINT, LETTER by LETTER;")
    static void ofFourLettersAllSixPointsAreMet() {
        AnyLength x = ofLetters(4);
        due("make", x.make(7, 7, 0), 6);
        dueSentence("kind 7", x, 7, new int[] {1, 2, 3, 4, 1}, new int[] {5, 2, 3, 4, 1}, new int[] {1, 5, 3, 4, 1},
            new int[] {1, 2, 5, 4, 1}, new int[] {1, 2, 3, 5, 1}, new int[] {5, 5, 5, 5, 0});
    }

    @Says("those that are not met are as at first.")
    static void pointsThatAreNotMetAreAsAtFirst() {
        for (int kind = 0; kind < 8; kind++) {
            AnyLength x = new AnyLength();
            for (int p = 0; p < 6; p++) {
                x.holds(0, p, false);
                for (int c = 0; c < 2; c++) x.point(0, p, c, 5);
            }
            int points = x.make(0, kind, 1);
            for (int p = points; p < 6; p++) {
                for (int c = 0; c < 2; c++) due("kind " + kind + ": about " + p + c, x.about(0, p, c), 0);
                due("kind " + kind + ": holds " + p, x.about(0, p, 2), 1);
            }
        }
    }

    // ---- promise 1

    /** As at first, by some 300 calls; the sheet by its count and by what a check says of it. */
    private static void dueAsAtFirst(String when, AnyLength x, int k) {
        due(when + " count(0)", x.count(0), k);
        due(when + " count(1)", x.count(1), 0);
        due(when + " count(2)", x.count(2), 0);
        due(when + " check", x.check(0, 0, -1, 0), 1);
        due(when + " at(0)", x.at(0), NONE);
        for (int s = 0; s < 8; s++) dueSentence(when, x, s);
        for (int q = 0; q < 4; q++) {
            for (int s = 0; s < 6; s++) {
                for (int c = 0; c < k; c++) due(when + " next spot " + q + s + c, x.of(q, s, c, 0), 0);
                for (int c = 0; c < k; c++) due(when + " word " + q + s + c, x.of(q, s, c, 1), 1 + c);
                due(when + " end " + q + s, x.of(q, s, k, 1), 0);
            }
        }
    }

    @Says(promise = 1, value = "Two LETTERS; all as at first.")
    static void aNewObjectHasTwoLettersAndAllAsAtFirst() {
        dueAsAtFirst("new", new AnyLength(), 2);
    }

    @Says(promise = 1, value = "Two LETTERS; all as at first.")
    static void aNewObjectSharesNothingWithAnother() {
        AnyLength other = new AnyLength();
        rich().write(0, 0, -1, 0);
        dueAsAtFirst("made ahead of it", other, 2);
        dueAsAtFirst("made behind it", new AnyLength(), 2);
    }

    // ---- promise 2

    @Says(promise = 2, value = "k LETTERS: all SENTENCES, PROGRAMS, THE SHEET and THE ROW as at first:")
    static void lettersPutAllAsAtFirst() {
        AnyLength x = rich();
        x.letters(2);
        dueAsAtFirst("fewer letters", x, 2);
        x = rich();
        x.letters(3);
        dueAsAtFirst("as many letters", x, 3);
    }

    @Says(promise = 2, value = "k LETTERS: all SENTENCES, PROGRAMS, THE SHEET and THE ROW as at first:")
    static void lettersThatComeBackAreAsAtFirst() {
        AnyLength x = ofLetters(4);
        for (int p = 0; p < 6; p++) {
            x.point(3, p, 3, 5);
            x.spot(2, p, 3, 5, 20);
        }
        x.letters(2);
        x.letters(4);
        for (int p = 0; p < 6; p++) {
            due("next point " + p, x.about(3, p, 3), 0);
            due("next spot " + p, x.of(2, p, 3, 0), 0);
            due("word " + p, x.of(2, p, 3, 1), 4);
        }
        due("the last letter", x.letter(3), 1);
    }

    @Says(promise = 2, value = "how many there were.")
    static void lettersTellHowManyThereWere() {
        AnyLength x = new AnyLength();
        int[] told = {2, 4, 3, 3, 4, 2};
        int was = 2;
        for (int k : told) {
            due("letters(" + k + ")", x.letters(k), was);
            was = k;
        }
    }

    @Says(promise = 2, value = "BAD.")
    static void lettersBelow2OrBeyond4AreBad() {
        refusesBeyond(BAD, "letters", given(3), range(2, 4));
        for (int k : new int[] {0, -2, 1, 5, 6, 256}) refused(BAD, "letters", k);
    }

    // ---- promises 3 and 4

    @Says(promise = 3, value = "The next POINT of a POINT for a LETTER: which it was.")
    static void pointTellsWhichItWas() {
        AnyLength x = ofLetters(4);
        due("first", x.point(7, 5, 3, 5), 0);
        due("second", x.point(7, 5, 3, 1), 5);
        due("third", x.point(7, 5, 3, 1), 1);
        due("another letter", x.point(7, 5, 2, 1), 0);
        due("another point", x.point(7, 4, 3, 1), 0);
        due("another sentence", x.point(6, 5, 3, 1), 0);
    }

    @Says(promise = 3, value = "UNKNOWN.")
    static void pointRefusesWhatIsNotThere() {
        refusesBeyond(UNKNOWN, "point", given(7, 5, 2, 5), range(0, 7), range(0, 5), range(0, 2), range(0, 5));
    }

    @Says(promise = 4, value = "A POINT HOLDS, or not: how it was: 1, 0.")
    static void holdsTellsHowItWas() {
        AnyLength x = new AnyLength();
        due("it held", x.holds(7, 5, true), 1);
        due("it held still", x.holds(7, 5, false), 1);
        due("it did not", x.holds(7, 5, false), 0);
        due("it did not still", x.holds(7, 5, true), 0);
        due("it holds", x.about(7, 5, 2), 1);
    }

    @Says(promise = 4, value = "UNKNOWN.")
    static void holdsRefusesWhatIsNotThere() {
        refusesBeyond(UNKNOWN, "holds", given(7, 5, 0), range(0, 7), range(0, 5), fixed());
    }

    // ---- promise 5

    @Says(promise = 5, value = "TO MAKE a SENTENCE (all of it anew):")
    static void makeLeavesNothingOfWhatWas() {
        AnyLength x = ofLetters(4);
        x.make(0, 7, 0);
        x.make(0, 3, 6);
        x.make(0, 0, 0);
        dueSentence("all rows behind six points", x, 0, new int[] {0, 0, 0, 0, 1});
        x.make(7, 7, 0);
        x.make(7, 2, 3);
        dueSentence("two points behind six", x, 7, new int[] {0, 0, 0, 1, 0}, new int[] {1, 1, 1, 1, 1});
        dueSentence("the others are let alone", x, 6);
    }

    @Says(promise = 5, value = "how many POINTS can be met in it.")
    static void makeTellsHowManyPointsCanBeMet() {
        AnyLength x = ofLetters(4);
        due("one at least", x.make(0, 3, 1), 1);
        due("six at most", x.make(0, 3, 6), 6);
        due("six at most", x.make(0, 7, 0), 6);
        due("five", x.make(0, 1, 0), 5);
    }

    @Says(promise = 5, value = "UNKNOWN: sentence,")
    static void makeRefusesASentenceThatIsNotThere() {
        refusesBeyond(UNKNOWN, "make", given(7, 0, 0), range(0, 7), fixed(), fixed());
    }

    @Says(promise = 5, value = "letter (kinds 2, 4, 5, 6);")
    static void makeRefusesALetterThatIsNotThere() {
        for (int kind : new int[] {2, 4, 5, 6}) {
            refusesBeyond(UNKNOWN, "make", given(7, kind, 2), fixed(), fixed(), range(0, 2));
        }
    }

    @Says(promise = 5, value = "BAD: kind,")
    static void makeRefusesAKindThatIsNotThere() {
        refusesBeyond(BAD, "make", given(7, 7, 1), fixed(), range(0, 7), fixed());
    }

    @Says(promise = 5, value = "a (kind 3; else not looked at).")
    static void makeRefusesADivisorBelow1OrBeyond6() {
        refusesBeyond(BAD, "make", given(7, 3, 6), fixed(), fixed(), range(1, 6));
        refused(BAD, "make", 7, 3, -6);
    }

    @Says(promise = 5, value = "a (kind 3; else not looked at).")
    static void makeDoesNotLookAtTheNumberOfOtherKinds() {
        for (int kind : new int[] {0, 1, 7}) {
            for (int a : new int[] {-1, 0, 3, 7, Integer.MIN_VALUE, Integer.MAX_VALUE}) taken("make", 7, kind, a);
        }
    }

    // ---- promise 6

    @Says(promise = 6, value = "A SENTENCE has the POINTS of another one, each HOLDS just if it does not there:")
    static void notTurnsAllSixPoints() {
        AnyLength x = ofLetters(3);
        for (int p = 0; p < 6; p++) {
            for (int c = 0; c < 3; c++) x.point(2, p, c, (p + c + 1) % 6);
            x.holds(2, p, p % 2 == 0);
        }
        x.not(5, 2);
        for (int p = 0; p < 6; p++) {
            for (int c = 0; c < 3; c++) due("next " + p + c, x.about(5, p, c), (p + c + 1) % 6);
            due("holds " + p, x.about(5, p, 3), p % 2);
            due("the other one is let alone " + p, x.about(2, p, 3), 1 - p % 2);
        }
        due("a change of the other one", x.point(2, 0, 0, 5), 1);
        due("does not come along", x.about(5, 0, 0), 1);
    }

    @Says(promise = 6, value = "A SENTENCE has the POINTS of another one, each HOLDS just if it does not there:")
    static void notOfItselfTurnsIt() {
        AnyLength x = new AnyLength();
        x.make(0, 5, 1);
        x.not(0, 0);
        dueSentenceTurned(x, 0);
        x.not(0, 0);
        dueSo(x, 0, 1, "1", "10");
        dueSo(x, 0, 0, "", "0", "01");
    }

    private static void dueSentenceTurned(AnyLength x, int sentence) {
        dueSo(x, sentence, 0, "1", "10");
        dueSo(x, sentence, 1, "", "0", "01");
        for (int p = 3; p < 6; p++) due("not met: " + p, x.about(sentence, p, 2), 0);
    }

    @Says(promise = 6, value = "how many HOLD then.")
    static void notTellsNoneToSix() {
        AnyLength x = new AnyLength();
        due("none", x.not(1, 0), 0);
        due("all six", x.not(2, 1), 6);
        x.holds(0, 5, false);
        due("one, that is not met", x.not(3, 0), 1);
        due("five", x.not(3, 3), 5);
    }

    @Says(promise = 6, value = "UNKNOWN.")
    static void notRefusesWhatIsNotThere() {
        refusesBeyond(UNKNOWN, "not", given(7, 7), range(0, 7), range(0, 7));
    }

    // ---- promise 7

    @Says(promise = 7, value = "A SENTENCE that IS SO just for ROWS for which another one and a third one are:")
    static void bothAreSoWhereTheTwoAre() {
        AnyLength x = ofLetters(3);
        x.make(0, 5, 1);
        x.make(1, 6, 2);
        due("both", x.both(2, 0, 1), 5);
        dueSo(x, 2, 1, "12", "102", "1112");
        dueSo(x, 2, 0, "", "1", "2", "0", "02", "22", "10", "121");
        makeNone(x, 3);
        x.both(4, 3, 0);
        dueSo(x, 4, 0, "", "1", "12");
    }

    @Says(promise = 7, value = "pairs of POINTS that can be met, numbered as they are met first (as ahead),")
    static void pairsAreNumberedAsTheyAreMet() {
        AnyLength x = new AnyLength();
        x.make(0, 3, 2);
        x.make(1, 2, 1);
        x.both(2, 0, 1);
        dueSentence("even, with a 1", x, 2, new int[] {1, 2, 0}, new int[] {0, 3, 0}, new int[] {3, 3, 0},
            new int[] {2, 2, 1});
        x.both(3, 1, 0);
        dueSentence("the other way round", x, 3, new int[] {1, 2, 0}, new int[] {0, 3, 0}, new int[] {3, 3, 0},
            new int[] {2, 2, 1});
    }

    @Says(promise = 7, value = "pairs of POINTS that can be met, numbered as they are met first (as ahead),")
    static void pairsThatCanNotBeMetAreNotCounted() {
        AnyLength x = new AnyLength();
        x.make(0, 3, 6);
        x.make(1, 3, 3);
        due("six of eighteen", x.both(2, 0, 1), 6);
        due("six of thirty-six", x.both(3, 0, 0), 6);
        due("one of thirty-six", x.both(4, 5, 6), 1);
    }

    @Says(promise = 7, value = "the others as at first:")
    static void bothPutsTheOtherPointsAsAtFirst() {
        AnyLength x = new AnyLength();
        for (int p = 0; p < 6; p++) {
            x.holds(2, p, false);
            for (int c = 0; c < 2; c++) x.point(2, p, c, 5);
        }
        x.make(0, 2, 1);
        x.both(2, 0, 1);
        dueSentence("two points", x, 2, new int[] {0, 1, 0}, new int[] {1, 1, 1});
    }

    @Says(promise = 7, value = "the others as at first:")
    static void bothMayBeMadeOfItself() {
        for (int which = 0; which < 3; which++) {
            AnyLength x = new AnyLength();
            x.make(0, 6, 1);
            x.make(1, 3, 2);
            int target = which == 1 ? 1 : 0;
            due("both", which == 2 ? x.both(0, 1, 0) : x.both(target, 0, 1), 4);
            dueSo(x, target, 1, "01", "11", "0001");
            dueSo(x, target, 0, "", "1", "0", "00", "10", "111");
        }
        AnyLength x = new AnyLength();
        x.make(0, 6, 1);
        due("both of one", x.both(0, 0, 0), 2);
        dueSentence("both of one", x, 0, new int[] {0, 1, 0}, new int[] {0, 1, 1});
    }

    @Says(promise = 7, value = "how many.")
    static void bothTellsOneToSix() {
        AnyLength x = new AnyLength();
        due("one", x.both(7, 0, 1), 1);
        x.make(0, 3, 2);
        x.make(1, 3, 3);
        due("six", x.both(7, 0, 1), 6);
        due("rows of six", x.rows(7, 6), 64);
        due("rows of three", x.rows(7, 3), 0);
    }

    @Says(promise = 7, value = "A SENTENCE that IS SO just for ROWS for which another one and a third one are:")
    static void bothHoldAtTheLastPoints() {
        AnyLength x = new AnyLength();
        makeRest(x, 0, 6, 5);
        makeRest(x, 1, 3, 2);
        due("six", x.both(2, 0, 1), 6);
        due("six, the other way round", x.both(3, 1, 0), 6);
        for (int s = 2; s <= 3; s++) {
            dueSo(x, s, 1, "00000", "11111111111");
            dueSo(x, s, 0, "", "00", "0000", "000000", "00000000");
        }
    }

    @Says(promise = 7, value = "UNKNOWN;")
    static void bothRefusesWhatIsNotThere() {
        refusesBeyond(UNKNOWN, "both", given(7, 7, 7), range(0, 7), range(0, 7), range(0, 7));
    }

    /** The first one walks to point 5 and stays there; behind it the other one still goes to and fro. */
    @Says(promise = 7, value = "FULL: more than 6.")
    static void bothRefusesSevenPairs() {
        AnyLength x = new AnyLength();
        for (int p = 0; p < 6; p++) for (int c = 0; c < 2; c++) x.point(0, p, c, Math.min(p + 1, 5));
        x.make(1, 3, 2);
        due("seven", x.both(2, 0, 1), FULL);
        dueSentence("nothing is changed", x, 2);
        due("seven, into one of the two", x.both(1, 0, 1), FULL);
        dueSentence("nothing is changed", x, 1, new int[] {1, 1, 1}, new int[] {0, 0, 0});
        for (int c = 0; c < 2; c++) x.point(0, 4, c, 4);
        due("six", x.both(2, 0, 1), 6);
    }

    @Says(promise = 7, value = "FULL: more than 6.")
    static void bothRefusesThirtySixPairs() {
        refused(FULL, "both", 1, 0, 1);
        AnyLength x = new AnyLength();
        for (int p = 0; p < 6; p++) {
            x.point(0, p, 0, (p + 1) % 6);
            x.point(0, p, 1, p);
            x.point(1, p, 1, (p + 1) % 6);
            x.point(1, p, 0, p);
        }
        due("thirty-six", x.both(0, 0, 1), FULL);
        for (int p = 0; p < 6; p++) due("nothing is changed " + p, x.about(0, p, 0), (p + 1) % 6);
    }

    // ---- promise 8

    @Says(promise = 8, value = "The next POINT (letter 0 .. k - 1),")
    static void aboutTellsNextPoints() {
        for (int k = 2; k <= 4; k++) {
            AnyLength x = ofLetters(k);
            x.point(7, 5, 0, 4);
            x.point(7, 5, k - 1, 5);
            due("letter 0", x.about(7, 5, 0), 4);
            due("letter k - 1", x.about(7, 5, k - 1), 5);
        }
    }

    @Says(promise = 8, value = "or whether it HOLDS (letter = k): 1, 0.")
    static void aboutTellsWhetherAPointHolds() {
        for (int k = 2; k <= 4; k++) {
            AnyLength x = ofLetters(k);
            x.point(7, 5, k - 1, 5);
            due("it holds", x.about(7, 5, k), 1);
            x.holds(7, 5, false);
            due("it does not", x.about(7, 5, k), 0);
            due("another one does", x.about(7, 4, k), 1);
        }
    }

    @Says(promise = 8, value = "UNKNOWN.")
    static void aboutRefusesWhatIsNotThere() {
        refusesBeyond(UNKNOWN, "about", given(7, 5, 3), range(0, 7), range(0, 5), range(0, 3));
    }
}
