/** Terms 5 and promises 22 to 26: sentences that follow, and how many rows there are, at their edges. */
final class FollowEdges extends Edges {
    private static final int[] TWENTY_THREES = {3, 3, 3, 3, 3, 3, 3, 3, 3, 3, 3, 3, 3, 3, 3, 3, 3, 3, 3, 3};

    // ---- terms

    @Says("A SENTENCE FOLLOWS from another one, if each ROW that IS SO by that IS SO by it;")
    static void allFollowsFromNoneAndNothingElseFromAll() {
        AnyLength x = new AnyLength();
        makeNone(x, 1);
        x.make(2, 2, 1);
        due("all from all", x.follows(0, 0), 1);
        due("none from none", x.follows(1, 1), 1);
        due("all from none", x.follows(1, 0), 1);
        due("none from all", x.follows(0, 1), 0);
        due("a sentence from none", x.follows(1, 2), 1);
        due("all from a sentence", x.follows(2, 0), 1);
        due("none from a sentence", x.follows(2, 1), 0);
        due("none from a sentence", x.unless(2, 1, -1), 1);
    }

    @Says("else a WITNESS: the shortest ROW,")
    static void aWitnessMayHaveNoLetterOrMany() {
        AnyLength x = new AnyLength();
        x.make(1, 2, 1);
        due("none", x.unless(0, 1, -1), 0);
        makeRest(x, 2, 5, 4);
        makeRest(x, 3, 6, 5);
        x.not(3, 3);
        due("29", x.unless(2, 3, -1), 29);
        for (int i = 0; i < 29; i++) due("letter " + i, x.unless(2, 3, i), 0);
        due("behind 29", x.unless(2, 3, 29), NONE);
    }

    @Says("of like ones the first.")
    static void ofLikeWitnessesTheFirst() {
        AnyLength x = ofLetters(3);
        x.make(1, 1, 0);
        x.make(2, 7, 0);
        x.make(3, 2, 2);
        due("not sorted", x.unless(0, 1, -1), 2);
        due("not sorted", x.unless(0, 1, 0), 1);
        due("not sorted", x.unless(0, 1, 1), 0);
        due("with a 2, two alike", x.unless(3, 2, -1), 2);
        due("with a 2, two alike", x.unless(3, 2, 0), 2);
        due("with a 2, two alike", x.unless(3, 2, 1), 2);
        due("with a 2, not sorted", x.unless(3, 1, 0), 2);
        due("with a 2, not sorted", x.unless(3, 1, 1), 0);
    }

    @Says("HOW MANY ROWS of a length (0 .. 20) ARE SO;")
    static void howManyRowsFrom0To20() {
        for (int k = 2; k <= 4; k++) {
            AnyLength x = ofLetters(k);
            long all = 1;
            for (int length = 0; length <= 20; length++) {
                due("of " + k + ": " + length, x.rows(7, length), all);
                all *= k;
            }
        }
    }

    @Says("in order by letters, by PLACE 0 ..")
    static void rowsStandInOrderByLetters() {
        AnyLength x = ofLetters(3);
        x.make(1, 7, 0);
        String[] rows = {"010", "012", "020", "021", "101", "102", "120", "121", "201", "202", "210", "212"};
        due("how many", x.rows(1, 3), 12);
        for (int i = 0; i < 12; i++) {
            due("first letter " + i, x.lay(1, 3, i), rows[i].charAt(0) - '0');
            for (int j = 0; j < 3; j++) due("letter " + i + j, x.at(j), rows[i].charAt(j) - '0');
            due("rank " + i, x.rank(1), i);
        }
    }

    // ---- promises 22 and 23

    @Says(promise = 22, value = "Whether a SENTENCE FOLLOWS from another one: 1, 0.")
    static void followsIsAskedFromTheFirst() {
        AnyLength x = new AnyLength();
        x.make(6, 3, 6);
        x.make(7, 3, 3);
        due("by three from by six", x.follows(6, 7), 1);
        due("by six from by three", x.follows(7, 6), 0);
        due("from itself", x.follows(7, 7), 1);
    }

    @Says(promise = 22, value = "UNKNOWN.")
    static void followsRefusesWhatIsNotThere() {
        refusesBeyond(UNKNOWN, "follows", given(7, 7), range(0, 7), range(0, 7));
    }

    @Says(promise = 23, value = {"How long the WITNESS is (i = -1),", "its i-th LETTER;"})
    static void unlessTellsItsLengthAndLetters() {
        AnyLength x = ofLetters(4);
        x.make(6, 5, 3);
        x.make(7, 6, 3);
        x.not(7, 7);
        due("length", x.unless(6, 7, -1), 1);
        due("letter", x.unless(6, 7, 0), 3);
        due("behind", x.unless(6, 7, 1), NONE);
        x.not(7, 7);
        due("length", x.unless(6, 7, -1), 2);
        due("letter 0", x.unless(6, 7, 0), 3);
        due("letter 1", x.unless(6, 7, 1), 0);
        due("behind", x.unless(6, 7, 2), NONE);
    }

    @Says(promise = 23, value = "NONE: it FOLLOWS,")
    static void whatFollowsHasNoWitness() {
        AnyLength x = new AnyLength();
        for (int i : new int[] {-1, 0, 1, Integer.MAX_VALUE}) due("unless " + i, x.unless(7, 6, i), NONE);
    }

    @Says(promise = 23, value = "or there is no such.")
    static void behindItsLastLetterAWitnessHasNone() {
        AnyLength x = new AnyLength();
        x.make(1, 2, 1);
        due("of none the first", x.unless(0, 1, 0), NONE);
        x.make(2, 4, 1);
        due("the only letter", x.unless(0, 2, 0), 1);
        due("behind it", x.unless(0, 2, 1), NONE);
        due("far behind it", x.unless(0, 2, Integer.MAX_VALUE), NONE);
    }

    @Says(promise = 23, value = "UNKNOWN;")
    static void unlessRefusesWhatIsNotThere() {
        refusesBeyond(UNKNOWN, "unless", given(7, 7, -1), range(0, 7), range(0, 7), fixed());
    }

    @Says(promise = 23, value = "BAD: i is below -1.")
    static void unlessRefusesALetterBelow() {
        for (long i : new long[] {-2, -9, Integer.MIN_VALUE}) {
            refused(BAD, "unless", 7, 7, i);
            refused(BAD, "unless", 7, 0, i);
        }
    }

    // ---- promises 24 to 26

    @Says(promise = 24, value = "HOW MANY ROWS of a length ARE SO.")
    static void rowsMayBeNoneOrMoreThanAnIntHolds() {
        AnyLength x = ofLetters(4);
        due("all of 20", x.rows(7, 20), 1099511627776L);
        due("all of 16", x.rows(7, 16), 4294967296L);
        makeNone(x, 1);
        for (int length = 0; length <= 20; length++) due("none of " + length, x.rows(1, length), 0);
        x.make(2, 7, 0);
        due("no two alike, of 0", x.rows(2, 0), 1);
        due("no two alike, of 1", x.rows(2, 1), 4);
        due("no two alike, of 20", x.rows(2, 20), 4649045868L);
        x.make(3, 3, 6);
        due("by six, of 18", x.rows(3, 18), 68719476736L);
        due("by six, of 20", x.rows(3, 20), 0);
    }

    @Says(promise = 24, value = "HOW MANY ROWS of a length ARE SO.")
    static void rowsThatEndAtTheLastPoint() {
        AnyLength x = new AnyLength();
        makeRest(x, 7, 6, 5);
        due("of 5", x.rows(7, 5), 32);
        due("of 17", x.rows(7, 17), 131072);
        due("of 6", x.rows(7, 6), 0);
        due("of 0", x.rows(7, 0), 0);
        x.holds(7, 5, false);
        due("of 5, none", x.rows(7, 5), 0);
    }

    @Says(promise = 24, value = "UNKNOWN;")
    static void rowsRefusesWhatIsNotThere() {
        refusesBeyond(UNKNOWN, "rows", given(7, 20), range(0, 7), fixed());
    }

    @Says(promise = 24, value = "BAD: length.")
    static void rowsRefusesALengthBelow0OrBeyond20() {
        refusesBeyond(BAD, "rows", given(7, 20), fixed(), range(0, 20));
    }

    @Says(promise = 25, value = "THE ROW becomes that at a PLACE of them: its first LETTER")
    static void layTakesTheFirstAndTheLastPlace() {
        AnyLength x = ofLetters(4);
        due("the last of all", x.lay(7, 20, 1099511627775L), 3);
        dueRow("the last of all", x, TWENTY_THREES);
        due("the first of all", x.lay(7, 20, 0), 0);
        due("its length", x.count(2), 20);
        due("its end", x.at(19), 0);
        due("beyond what an int holds", x.lay(7, 17, 4294967296L), 1);
        due("beyond what an int holds", x.at(1), 0);
        due("of one letter", x.lay(7, 1, 2), 2);
        dueRow("of one letter", x, 2);
        x.make(1, 6, 3);
        due("the last of those with 3 last", x.lay(1, 2, 3), 3);
        dueRow("the last of those with 3 last", x, 3, 3);
    }

    @Says(promise = 25, value = "(NONE: it has none).")
    static void layOfLength0HasNoFirstLetter() {
        AnyLength x = new AnyLength();
        tell(x, 1, 1);
        due("lay", x.lay(0, 0, 0), NONE);
        dueRow("lay", x);
    }

    @Says(promise = 25, value = "UNKNOWN;")
    static void layRefusesWhatIsNotThere() {
        refusesBeyond(UNKNOWN, "lay", given(7, 20, 0), range(0, 7), fixed(), fixed());
    }

    @Says(promise = 25, value = "BAD: length,")
    static void layRefusesALengthBelow0OrBeyond20() {
        refusesBeyond(BAD, "lay", given(7, 20, 0), fixed(), range(0, 20), fixed());
    }

    @Says(promise = 25, value = "place.")
    static void layRefusesAPlaceThatIsNone() {
        refusesBeyond(BAD, "lay", given(7, 5, 0), fixed(), fixed(), range(0, 242));
        long[] beyond = {3486784401L, -1L, 1L << 32, 1L << 40, Long.MAX_VALUE, Long.MIN_VALUE, -(1L << 32)};
        for (long place : beyond) refused(BAD, "lay", 7, 20, place);
        refused(BAD, "lay", 7, 0, 1);
    }

    @Says(promise = 25, value = "place.")
    static void ofNoRowsThereIsNoPlace0() {
        refused(BAD, "lay", 2, 0, 0);
        refused(BAD, "lay", 1, 5, 0);
        taken("lay", 1, 6, 0);
    }

    @Says(promise = 26, value = "The PLACE of THE ROW among all of its length.")
    static void rankIsThePlaceThatLayTakes() {
        AnyLength x = ofLetters(4);
        due("of none", x.rank(7), 0);
        tellMany(x, 20, 3);
        due("the last of all", x.rank(7), 1099511627775L);
        x.make(1, 1, 0);
        due("the last that is sorted", x.rank(1), x.rows(1, 20) - 1);
        x.clear();
        tellMany(x, 20, 0);
        due("the first of all", x.rank(7), 0);
        x.lay(7, 20, 987654321098L);
        due("told back", x.rank(7), 987654321098L);
        tell(x, 3);
        due("of one letter", x.rank(7), 3);
        x.make(2, 2, 3);
        due("the only one", x.rank(2), 0);
    }

    @Says(promise = 26, value = "UNKNOWN;")
    static void rankRefusesWhatIsNotThere() {
        refusesBeyond(UNKNOWN, "rank", given(2), range(0, 7));
    }

    @Says(promise = 26, value = "STATE: it IS not SO;")
    static void rankRefusesARowThatIsNotSo() {
        refused(STATE, "rank", 3);
        refused(STATE, "rank", 1);
        AnyLength x = new AnyLength();
        x.make(0, 2, 1);
        due("of none", x.rank(0), STATE);
        tellMany(x, 20, 0);
        due("of 20", x.rank(0), STATE);
    }

    @Says(promise = 26, value = "FULL: it is longer than 20.")
    static void rankRefusesARowLongerThan20() {
        AnyLength x = new AnyLength();
        tellMany(x, 20, 1);
        due("of 20", x.rank(7), 1048575);
        for (int length = 21; length <= 24; length++) {
            x.letter(1);
            due("of " + length, x.rank(7), FULL);
        }
        due("nothing is changed", x.count(2), 24);
    }
}
