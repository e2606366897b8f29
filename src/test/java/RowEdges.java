/** Terms 5 and promises 27 to 33: the row at its edges. */
final class RowEdges extends Edges {
    // ---- terms

    @Says("THE ROW is told letter by letter (24 at most; none at first).")
    static void theRowHasNoneAtFirstAnd24AtMost() {
        AnyLength x = new AnyLength();
        due("at first", x.count(2), 0);
        due("at first", x.at(0), NONE);
        for (int i = 0; i < 24; i++) due("letter " + i, x.letter(i % 2), i + 1);
        due("one more", x.letter(0), FULL);
        for (int i = 0; i < 24; i++) due("at " + i, x.at(i), i % 2);
    }

    @Says("TO RUN a PROGRAM on it: THE ROW becomes what it writes (24 letters at most).")
    static void aRunMayWriteNoLetterOr24() {
        AnyLength x = new AnyLength();
        x.spot(0, 0, 0, 0, 10);
        x.spot(1, 0, 1, 0, 0);
        tellMany(x, 12, 0);
        due("24", x.run(0), 24);
        due("at 23", x.at(23), 1);
        due("none", x.run(1), 0);
        due("at 0", x.at(0), NONE);
        due("none of none", x.run(1), 0);
    }

    /** Each time the first letter that is not 3 becomes one more. */
    private static AnyLength oneMoreEachTime() {
        AnyLength x = ofLetters(4);
        for (int c = 0; c < 3; c++) x.spot(0, 0, c, 1, 2 + c);
        stayIn(x, 0, 1);
        return x;
    }

    @Says("ROUNDS: how often a PROGRAM is run on it, one time behind another, ahead of the first time that it writes what it reads;")
    static void roundsAreCountedAheadOfTheFirstTimeThatNothingChanges() {
        AnyLength x = oneMoreEachTime();
        due("of none", x.rounds(0), 0);
        tell(x, 3);
        due("at once", x.rounds(0), 0);
        tell(x, 2);
        due("one", x.rounds(0), 1);
        tell(x, 0, 3, 1);
        due("five", x.rounds(0), 5);
    }

    @Says("it is run 60 times at most, that one with them.")
    static void roundsAre59AtMost() {
        AnyLength x = oneMoreEachTime();
        tellMany(x, 19, 0);
        x.letter(2);
        due("58", x.rounds(0), 58);
        tellMany(x, 1, 2);
        due("59", x.rounds(0), 59);
        tellMany(x, 1, 2);
        due("60", x.rounds(0), NONE);
        tellMany(x, 2, 0);
        due("66", x.rounds(0), NONE);
    }

    @Says("it is run 60 times at most, that one with them.")
    static void roundsThatComeRoundAgainAreNone() {
        AnyLength x = new AnyLength();
        x.spot(0, 0, 0, 0, 2);
        x.spot(0, 0, 1, 0, 1);
        due("of none at once", x.rounds(0), 0);
        tell(x, 0);
        due("0 and 1 for ever", x.rounds(0), NONE);
    }

    // ---- promises 27 to 30

    @Says(promise = 27, value = "A LETTER comes behind THE ROW: how many.")
    static void letterTellsHowMany() {
        AnyLength x = ofLetters(4);
        due("the first", x.letter(3), 1);
        due("the second", x.letter(0), 2);
        dueRow("both", x, 3, 0);
        tellMany(x, 21, 1);
        due("the last", x.letter(2), 24);
        due("the last", x.at(23), 2);
    }

    @Says(promise = 27, value = "A LETTER comes behind THE ROW: how many.")
    static void letterComesBehindWhatWasLaidOrWritten() {
        AnyLength x = new AnyLength();
        x.lay(0, 20, 1048575);
        due("behind 20 that were laid", x.letter(0), 21);
        due("at 20", x.at(20), 0);
        x.lay(0, 2, 1);
        due("behind two", x.letter(1), 3);
        dueRow("behind two", x, 0, 1, 1);
        x.spot(0, 0, 1, 0, 0);
        x.run(0);
        due("behind what was written", x.letter(1), 2);
        dueRow("behind what was written", x, 0, 1);
    }

    @Says(promise = 27, value = "UNKNOWN;")
    static void letterRefusesWhatIsNotThere() {
        refusesBeyond(UNKNOWN, "letter", given(2), range(0, 2));
    }

    @Says(promise = 27, value = "FULL.")
    static void letterRefusesThe25th() {
        AnyLength x = new AnyLength();
        tellMany(x, 24, 1);
        due("the 25th", x.letter(0), FULL);
        due("the 25th again", x.letter(0), FULL);
        due("nothing is changed", x.count(2), 24);
        due("nothing is changed", x.at(23), 1);
        due("nothing is changed", x.at(24), NONE);
    }

    @Says(promise = 28, value = "THE ROW is none: how long it was.")
    static void clearTellsHowLongItWas() {
        AnyLength x = new AnyLength();
        due("none", x.clear(), 0);
        tellMany(x, 24, 1);
        due("24", x.clear(), 24);
        due("none again", x.clear(), 0);
        due("count", x.count(2), 0);
        due("at 0", x.at(0), NONE);
        due("there is room again", x.letter(0), 1);
    }

    @Says(promise = 28, value = "THE ROW is none: how long it was.")
    static void clearLeavesAllElse() {
        AnyLength x = rich();
        due("clear", x.clear(), 5);
        tell(x, 2, 0, 1, 0, 2);
        if (!seen(x).equals(seen(rich()))) tellWrong("something else was changed");
    }

    @Says(promise = 29, value = "The i-th LETTER of it;")
    static void atTellsFromTheFirstToTheLast() {
        AnyLength x = ofLetters(4);
        tell(x, 3, 1, 0);
        due("the first", x.at(0), 3);
        due("the last", x.at(2), 0);
        tellMany(x, 21, 2);
        due("the 24th", x.at(23), 2);
    }

    @Says(promise = 29, value = "NONE.")
    static void beyondTheRowThereIsNoLetter() {
        AnyLength x = new AnyLength();
        due("of none", x.at(0), NONE);
        tell(x, 1, 1);
        for (int i : new int[] {2, 3, 23, 24, 49, 50, -1, -2, Integer.MIN_VALUE, Integer.MAX_VALUE}) {
            due("at " + i, x.at(i), NONE);
        }
        tellMany(x, 22, 1);
        due("at 24 of 24", x.at(24), NONE);
    }

    @Says(promise = 30, value = "Whether THE ROW IS SO: 1, 0.")
    static void isTellsOfNoneAndOf24() {
        AnyLength x = new AnyLength();
        x.make(7, 3, 6);
        x.make(6, 3, 5);
        due("of none by six", x.is(7), 1);
        tellMany(x, 23, 1);
        due("of 23 by six", x.is(7), 0);
        x.letter(0);
        due("of 24 by six", x.is(7), 1);
        due("of 24 by five", x.is(6), 0);
    }

    @Says(promise = 30, value = "UNKNOWN.")
    static void isRefusesWhatIsNotThere() {
        refusesBeyond(UNKNOWN, "is", given(7), range(0, 7));
    }

    // ---- promises 31 to 33

    @Says(promise = 31, value = "TO RUN a PROGRAM on THE ROW: how long it is then.")
    static void runTellsHowLongItIsThen() {
        AnyLength x = new AnyLength();
        due("none", x.run(3), 0);
        x.end(3, 0, 6);
        due("the end alone", x.run(3), 2);
        dueRow("the end alone", x, 0, 1);
        due("once more", x.run(3), 4);
        dueRow("once more", x, 0, 1, 0, 1);
        for (int c = 0; c < 2; c++) x.spot(3, 0, c, 0, 0);
        x.end(3, 0, 0);
        due("nothing is written", x.run(3), 0);
        dueRow("nothing is written", x);
    }

    @Says(promise = 31, value = "UNKNOWN;")
    static void runRefusesWhatIsNotThere() {
        refusesBeyond(UNKNOWN, "run", given(3), range(0, 3));
    }

    @Says(promise = 31, value = "STATE: it writes no ROW;")
    static void runRefusesWhereItStops() {
        AnyLength x = new AnyLength();
        x.end(3, 0, STOPS);
        due("of none", x.run(3), STATE);
        tell(x, 1, 0);
        due("of two", x.run(3), STATE);
        dueRow("nothing is changed", x, 1, 0);
        x.spot(3, 0, 0, 5, 1);
        due("it does not stop elsewhere", x.run(3), 2);
        x.end(3, 5, STOPS);
        due("now it does", x.run(3), STATE);
        dueRow("nothing is changed", x, 1, 0);
    }

    @Says(promise = 31, value = "FULL: more than 24 letters.")
    static void runRefusesThe25thLetter() {
        AnyLength x = new AnyLength();
        tellMany(x, 23, 1);
        x.end(3, 0, 1);
        due("23 and one", x.run(3), 24);
        due("24 and one", x.run(3), FULL);
        due("nothing is changed", x.count(2), 24);
        due("nothing is changed", x.at(23), 0);
        x.end(3, 0, 0);
        due("24", x.run(3), 24);
        x.spot(3, 0, 0, 0, 6);
        due("25 by a word of two", x.run(3), FULL);
        x.spot(3, 0, 1, 0, 10);
        x.end(3, 0, 10);
        due("50, as many as can be", x.run(3), FULL);
        due("nothing is changed", x.clear(), 24);
    }

    /** What is dropped behind makes up for no letter too many: all that is written counts, and no more. */
    @Says(promise = 31, value = "FULL: more than 24 letters.")
    static void runCountsWhatIsWrittenInAll() {
        AnyLength x = new AnyLength();
        x.spot(0, 0, 1, 0, 10);
        x.spot(0, 0, 0, 1, 0);
        for (int c = 0; c < 2; c++) x.spot(0, 1, c, 1, 0);
        tellMany(x, 12, 1);
        tellMany(x, 12, 0);
        due("24 of 24", x.run(0), 24);
        x.clear();
        tellMany(x, 13, 1);
        tellMany(x, 11, 0);
        due("26 of 24", x.run(0), FULL);
    }

    @Says(promise = 32, value = "ROUNDS (THE ROW is not changed; 0: at once);")
    static void roundsLeaveTheRow() {
        AnyLength x = oneMoreEachTime();
        tell(x, 0, 2);
        due("four", x.rounds(0), 4);
        dueRow("nothing is changed", x, 0, 2);
        due("the same again", x.rounds(0), 4);
        due("a run is one of them", x.run(0), 2);
        due("three", x.rounds(0), 3);
        due("at once", x.rounds(1), 0);
        dueRow("nothing is changed", x, 1, 2);
    }

    @Says(promise = 32, value = "NONE: not in 60 times,")
    static void roundsBeyond60TimesAreNone() {
        AnyLength x = oneMoreEachTime();
        tellMany(x, 20, 0);
        due("60 ahead of it", x.rounds(0), NONE);
        due("nothing is changed", x.at(0), 0);
        x.run(0);
        due("59 ahead of it", x.rounds(0), 59);
    }

    @Says(promise = 32, value = "or it STOPS,")
    static void roundsThatStopAreNone() {
        AnyLength x = oneMoreEachTime();
        x.end(0, 0, STOPS);
        due("of none it stops at once", x.rounds(0), NONE);
        tell(x, 0, 0);
        due("it stops at the seventh time", x.rounds(0), NONE);
        dueRow("nothing is changed", x, 0, 0);
        x.end(0, 0, 0);
        due("it does not stop", x.rounds(0), 6);
    }

    @Says(promise = 32, value = "or would write more than 24 letters.")
    static void roundsThatWouldWriteTooMuchAreNone() {
        AnyLength x = new AnyLength();
        x.end(0, 0, 1);
        due("one more each time", x.rounds(0), NONE);
        tellMany(x, 24, 1);
        due("the 25th at once", x.rounds(0), NONE);
        due("nothing is changed", x.count(2), 24);
    }

    /** A 0 first becomes 11, so that 23 letters become 24, and stay so. */
    @Says(promise = 32, value = "or would write more than 24 letters.")
    static void roundsMayWriteJust24() {
        AnyLength x = new AnyLength();
        x.spot(0, 0, 0, 1, 10);
        x.spot(0, 0, 1, 1, 2);
        stayIn(x, 0, 1);
        x.letter(0);
        tellMany(x, 22, 1);
        due("23 become 24", x.rounds(0), 1);
        x.letter(1);
        due("24 would become 25", x.rounds(0), NONE);
    }

    @Says(promise = 32, value = "UNKNOWN.")
    static void roundsRefuseWhatIsNotThere() {
        refusesBeyond(UNKNOWN, "rounds", given(3), range(0, 3));
    }

    @Says(promise = 33, value = "0 LETTERS, 1 PLACES in THE SHEET, 2 letters of THE ROW.")
    static void countTellsTheLeastAndTheMost() {
        AnyLength x = new AnyLength();
        due("letters", x.count(0), 2);
        due("places", x.count(1), 0);
        due("the row", x.count(2), 0);
        x.letters(4);
        for (int place = 0; place < 400; place++) x.sheet(place, true);
        tellMany(x, 24, 3);
        due("letters", x.count(0), 4);
        due("places", x.count(1), 400);
        due("the row", x.count(2), 24);
    }

    @Says(promise = 33, value = "0 LETTERS, 1 PLACES in THE SHEET, 2 letters of THE ROW.")
    static void countOfPlacesCountsEachOnce() {
        AnyLength x = new AnyLength();
        x.sheet(3, true);
        x.sheet(3, true);
        due("told twice", x.count(1), 1);
        x.sheet(4, false);
        due("one that was not in it", x.count(1), 1);
        x.sheet(3, false);
        x.sheet(3, false);
        due("taken out twice", x.count(1), 0);
        x.write(0, 0, -1, 0);
        due("written", x.count(1), 1);
        x.sheet(0, true);
        due("written and told", x.count(1), 1);
    }

    @Says(promise = 33, value = "BAD.")
    static void countRefusesOtherQuestions() {
        refusesBeyond(BAD, "count", given(0), range(0, 2));
    }
}
