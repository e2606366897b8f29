/** Terms 6: refusals. That each call refuses what is not there stands with its own promise. */
final class RefusalEdges extends Edges {
    @Says({"REFUSALS: UNKNOWN -1 (there is no such SENTENCE, POINT, PROGRAM, SPOT, LETTER), BAD -2, STATE -3, FULL -4.",
        "NONE is -9."})
    static void theNumbersOfTheRefusals() {
        due("UNKNOWN", AnyLength.UNKNOWN, -1);
        due("BAD", AnyLength.BAD, -2);
        due("STATE", AnyLength.STATE, -3);
        due("FULL", AnyLength.FULL, -4);
        due("NONE", AnyLength.NONE, -9);
    }

    @Says("Of several what is told first.")
    static void whatIsNotThereIsToldAheadOfABadKindOrNumber() {
        for (long sentence : new long[] {-1, 8}) {
            refused(UNKNOWN, "make", sentence, 8, 0);
            refused(UNKNOWN, "make", sentence, -1, 0);
            refused(UNKNOWN, "make", sentence, 3, 0);
            refused(UNKNOWN, "make", sentence, 3, 7);
        }
    }

    @Says("Of several what is told first.")
    static void whatIsNotThereIsToldAheadOfTooManyPairs() {
        refused(FULL, "both", 7, 0, 1);
        refused(UNKNOWN, "both", 8, 0, 1);
        refused(UNKNOWN, "both", -1, 0, 1);
    }

    @Says("Of several what is told first.")
    static void whatIsNotThereIsToldAheadOfABadWord() {
        refused(UNKNOWN, "spot", 4, 0, 0, 0, 21);
        refused(UNKNOWN, "spot", 0, 6, 0, 0, 21);
        refused(UNKNOWN, "spot", 0, 0, 3, 0, 21);
        refused(UNKNOWN, "spot", 0, 0, 0, 6, 21);
        refused(UNKNOWN, "spot", 0, 0, 0, -1, -1);
        refused(UNKNOWN, "end", 4, 0, -2);
        refused(UNKNOWN, "end", 0, 6, 21);
    }

    @Says("Of several what is told first.")
    static void whatIsNotThereIsToldAheadOfABadQuestion() {
        refused(UNKNOWN, "of", 4, 0, 0, 2);
        refused(UNKNOWN, "of", 0, 6, 0, -1);
        refused(UNKNOWN, "of", 0, 0, 4, 2);
        refused(UNKNOWN, "of", 0, -1, 3, 0);
    }

    @Says("Of several what is told first.")
    static void whatIsNotThereIsToldAheadOfALetterBelow() {
        refused(UNKNOWN, "picture", 8, 0, -1, 0, -2);
        refused(UNKNOWN, "picture", 0, 4, -1, 0, -2);
        refused(UNKNOWN, "picture", 0, 0, 4, 0, -2);
        refused(UNKNOWN, "picture", 0, 0, -2, 0, -2);
        refused(UNKNOWN, "picture", 0, 0, -1, 8, -2);
        refused(UNKNOWN, "unless", 8, 0, -2);
        refused(UNKNOWN, "unless", 0, 8, -2);
        refused(UNKNOWN, "place", 0, 0, -1, 8, -1);
    }

    @Says("Of several what is told first.")
    static void whatIsNotThereIsToldAheadOfABadLengthOrPlace() {
        refused(UNKNOWN, "rows", 8, 21);
        refused(UNKNOWN, "rows", -1, -1);
        refused(UNKNOWN, "lay", 8, 21, 0);
        refused(UNKNOWN, "lay", 8, 20, -1);
        refused(UNKNOWN, "lay", -1, -1, Long.MAX_VALUE);
    }

    @Says("Of several what is told first.")
    static void rankTellsWhatIsNotThereThenNotSoThenTooLong() {
        AnyLength x = new AnyLength();
        x.make(1, 4, 1);
        tellMany(x, 21, 1);
        due("not there, too long", x.rank(8), UNKNOWN);
        due("not so, too long", x.rank(1), STATE);
        due("too long", x.rank(0), FULL);
    }

    @Says("Of several what is told first.")
    static void letterTellsWhatIsNotThereThenFull() {
        AnyLength x = new AnyLength();
        tellMany(x, 24, 1);
        due("not there, full", x.letter(2), UNKNOWN);
        due("not there, full", x.letter(-1), UNKNOWN);
        due("full", x.letter(1), FULL);
    }

    @Says("Of several what is told first.")
    static void runTellsNotThereThenNoRowThenFull() {
        AnyLength x = new AnyLength();
        for (int c = 0; c < 2; c++) x.spot(0, 0, c, 0, 10);
        x.end(0, 0, STOPS);
        tellMany(x, 24, 1);
        due("not there", x.run(4), UNKNOWN);
        due("48 letters, and no row", x.run(0), STATE);
        x.end(0, 0, 0);
        due("48 letters", x.run(0), FULL);
        due("nothing is changed", x.count(2), 24);
    }

    /** A first call that is taken, one that is refused, and again one that is taken: as if it had not been. */
    @Says("What is refused changes nothing.")
    static void whatComesBehindARefusalIsAsWithoutIt() {
        AnyLength x = new AnyLength();
        due("letter", x.letter(1), 1);
        due("refused", x.letter(2), UNKNOWN);
        due("letter", x.letter(0), 2);
        due("refused", x.letters(5), BAD);
        due("letter", x.letter(0), 3);
        due("spot", x.spot(0, 0, 0, 1, 0), 1);
        due("refused", x.spot(0, 0, 0, 2, 3), BAD);
        due("refused", x.spot(0, 0, 0, 6, 2), UNKNOWN);
        due("the next spot", x.of(0, 0, 0, 0), 1);
        due("the word", x.of(0, 0, 0, 1), 0);
        due("sheet", x.sheet(1295, true), 0);
        due("refused", x.sheet(1296, true), BAD);
        due("refused", x.write(0, 0, 4, 0), UNKNOWN);
        due("sheet", x.sheet(1295, true), 1);
        due("places", x.count(1), 1);
        due("refused", x.lay(0, 3, 8), BAD);
        dueRow("the row", x, 1, 0, 0);
    }
}
