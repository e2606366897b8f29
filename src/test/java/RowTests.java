/** Promises 19 to 33: letters that stay, programs that agree, sentences that follow, the row. */
public final class RowTests extends Checks {
    public static void main(String[] args) {
        constants();
        stays();
        staysLate();
        agree();
        agreeByLeads();
        agreeOnlyWhereRowsAreWritten();
        agreeByEachWay();
        agreeByLongLead();
        follows();
        rows();
        lay();
        rank();
        row();
        run();
        rounds();
        count();
        finish("rows");
    }

    private static void constants() {
        due("UNKNOWN", AnyLength.UNKNOWN, UNKNOWN);
        due("BAD", AnyLength.BAD, BAD);
        due("STATE", AnyLength.STATE, STATE);
        due("FULL", AnyLength.FULL, FULL);
        due("NONE", AnyLength.NONE, NONE);
    }

    private static void stays() {
        AnyLength x = new AnyLength();
        due("unchanged", x.stays(0, 0, 0), 1);
        due("unchanged", x.witness(0, 0, 0), NONE);
        x.spot(0, 0, 1, 0, 1);
        due("1 becomes 0: 1", x.witness(0, 0, 1), 1);
        due("1 becomes 0: 0", x.witness(0, 0, 0), 1);
        due("1 becomes 0", x.stays(0, 0, 0), 0);
        x.make(1, 4, 1);
        due("where no 1 is it stays", x.stays(1, 0, 1), 1);
        due("where no 1 is it stays", x.witness(1, 0, 0), NONE);
        x.end(1, 0, 6);
        due("the end counts", x.witness(0, 1, 0), 0);
        due("the end counts", x.witness(0, 1, 1), 0);
        x.end(1, 0, STOPS);
        due("where no row is written it stays", x.stays(0, 1, 0), 1);
        x.end(1, 0, 10);
        due("the other letter stays", x.stays(0, 1, 0), 1);
        due("two more", x.witness(0, 1, 1), 0);
        int[][] unknown = {{8, 0, 0}, {-1, 0, 0}, {0, 4, 0}, {0, -1, 0}, {0, 0, 2}, {0, 0, -1}};
        for (int[] u : unknown) {
            due("stays " + u[0] + u[1] + u[2], x.stays(u[0], u[1], u[2]), UNKNOWN);
            due("witness " + u[0] + u[1] + u[2], x.witness(u[0], u[1], u[2]), UNKNOWN);
        }
    }

    /** What is over first may be made up for by the end, so that a longer way round is the shortest one. */
    private static void staysLate() {
        AnyLength x = new AnyLength();
        // Spot 0 drops a 0, spot 1 writes it again at the end or by the next letter.
        x.spot(0, 0, 0, 1, 0);
        x.spot(0, 1, 0, 1, 1);
        x.spot(0, 1, 1, 0, 6);
        x.end(0, 1, 1);
        due("held back and told", x.stays(0, 0, 0), 1);
        due("held back and told", x.stays(0, 0, 1), 1);
        // A ring of five that writes two for each 0 but none at one spot, seen by lengths of six.
        AnyLength y = new AnyLength();
        for (int i = 0; i < 5; i++) y.spot(0, i, 0, (i + 1) % 5, i < 2 ? 5 : i == 2 ? 1 : 0);
        for (int i = 0; i < 5; i++) y.spot(0, i, 1, i, 2);
        due("even behind each ring", y.witness(0, 0, 0), 1);
        y.make(1, 3, 5);
        y.make(2, 4, 1);
        due("no 1, length five", y.both(3, 1, 2), -4);
        y.make(4, 3, 1);
        for (int i = 0; i < 5; i++) {
            y.point(3, i, 0, (i + 1) % 5);
            y.point(3, i, 1, 5);
            y.holds(3, i, i == 0);
            y.point(3, 5, 0, 5);
            y.point(3, 5, 1, 5);
        }
        y.holds(3, 5, false);
        due("only whole rings", y.stays(3, 0, 0), 1);
        y.holds(3, 4, true);
        due("four of five", y.witness(3, 0, 0), 4);
        y.holds(3, 4, false);
        y.spot(0, 4, 0, 0, 1);
        due("one more each ring", y.witness(3, 0, 0), 5);
        // Two rings of five and six: the spot where it is uneven is met with the point that holds late.
        AnyLength z = new AnyLength();
        z.make(0, 3, 6);
        for (int i = 0; i < 5; i++) {
            z.spot(0, i, 0, (i + 1) % 5, 1);
            z.spot(0, i, 1, (i + 1) % 5, 2);
        }
        z.end(0, 4, 2);
        due("24 is the first length of both", z.witness(0, 0, 1), 24);
        due("the other letter stays", z.witness(0, 0, 0), NONE);
    }

    private static void agree() {
        AnyLength x = new AnyLength();
        due("as at first", x.agree(0, 0, 1), 1);
        due("with itself", x.agree(0, 2, 2), 1);
        x.spot(0, 0, 1, 0, 1);
        due("1 becomes 0", x.agree(0, 0, 1), 0);
        due("the other way round", x.agree(0, 1, 0), 0);
        x.make(1, 4, 1);
        due("where no 1 is", x.agree(1, 0, 1), 1);
        x.end(2, 0, 2);
        due("another end", x.agree(0, 2, 3), 0);
        x.end(3, 0, 10);
        due("a longer end", x.agree(0, 2, 3), 0);
        x.end(3, 0, STOPS);
        due("one stops", x.agree(0, 2, 3), 0);
        due("one stops", x.agree(0, 3, 2), 0);
        x.end(2, 0, STOPS);
        due("both stop", x.agree(0, 2, 3), 1);
        x.spot(2, 0, 0, 0, 0);
        due("both stop, whatever was written", x.agree(0, 2, 3), 1);
        for (int p = 0; p < 6; p++) x.holds(5, p, false);
        due("of no row", x.agree(5, 0, 2), 1);
        due("sentence 8", x.agree(8, 0, 0), UNKNOWN);
        due("sentence -1", x.agree(-1, 0, 0), UNKNOWN);
        due("program 4", x.agree(0, 4, 0), UNKNOWN);
        due("other 4", x.agree(0, 0, 4), UNKNOWN);
        due("other -1", x.agree(0, 0, -1), UNKNOWN);
    }

    /** One writes late what the other writes at once. */
    private static void agreeByLeads() {
        AnyLength x = new AnyLength();
        // Program 1: what was read last is kept as a spot (1, 2) and written one letter later.
        for (int kept = 0; kept < 3; kept++) {
            for (int c = 0; c < 2; c++) x.spot(1, kept, c, 1 + c, kept == 0 ? 0 : kept);
            x.end(1, kept, kept);
        }
        due("one letter late", x.agree(0, 0, 1), 1);
        due("one letter late", x.agree(0, 1, 0), 1);
        x.end(1, 2, 1);
        due("a wrong letter at last", x.agree(0, 0, 1), 0);
        x.make(1, 6, 0);
        due("seen by no row that ends with 0", x.agree(1, 0, 1), 1);
        x.end(1, 2, 0);
        x.spot(1, 0, 0, 1, 1);
        due("one letter too many", x.agree(0, 0, 1), 0);
        // Rings of six: one writes twelve letters at first, the other one at last.
        AnyLength y = new AnyLength();
        for (int i = 0; i < 6; i++) {
            for (int c = 0; c < 2; c++) {
                y.spot(0, i, c, (i + 1) % 6, i < 3 ? 6 : 0);
                y.spot(1, i, c, (i + 1) % 6, i < 3 ? 0 : 6);
            }
        }
        y.make(0, 3, 6);
        due("a long lead that is made up for", y.agree(0, 0, 1), 1);
        y.make(0, 3, 3);
        due("a long lead that is not", y.agree(0, 0, 1), 0);
        y.make(0, 3, 6);
        y.spot(1, 5, 1, 0, 9);
        due("another last letter", y.agree(0, 0, 1), 0);
        y.spot(1, 5, 1, 0, 10);
        due("another last letter", y.agree(0, 0, 1), 0);
        // As long, but shifted: 0 1 0 1 .. against 1 0 1 0 ..
        AnyLength z = new AnyLength();
        for (int c = 0; c < 2; c++) {
            z.spot(0, 0, c, 0, 6);
            z.spot(1, 0, c, 1, 1);
            z.spot(1, 1, c, 1, 9);
        }
        z.end(1, 1, 2);
        due("shifted words", z.agree(0, 0, 1), 1);
        z.end(1, 1, 1);
        due("shifted words, wrong end", z.agree(0, 0, 1), 0);
        // The lead grows without end.
        for (int c = 0; c < 2; c++) z.spot(1, 1, c, 1, 2);
        due("a lead that grows", z.agree(0, 0, 1), 0);
    }

    private static void agreeOnlyWhereRowsAreWritten() {
        AnyLength x = new AnyLength();
        // Behind a 1 both stop for ever; what they write there is free, as long as it may grow.
        for (int p = 0; p < 2; p++) {
            x.spot(p, 0, 1, 1, p == 0 ? 10 : 0);
            x.spot(p, 1, 0, 1, p == 0 ? 5 : 0);
            x.spot(p, 1, 1, 1, p == 0 ? 5 : 0);
            x.end(p, 1, STOPS);
        }
        due("behind a 1 no row is written", x.agree(0, 0, 1), 1);
        x.end(0, 1, 0);
        due("one writes there", x.agree(0, 0, 1), 0);
        x.make(1, 4, 1);
        due("rows without a 1", x.agree(1, 0, 1), 1);
        x.end(1, 1, 0);
        due("both write there", x.agree(0, 0, 1), 0);
        due("rows without a 1", x.agree(1, 0, 1), 1);
    }

    /** Two ways to the same state, of like length, by other letters: only the second one is wrong. */
    private static void agreeByEachWay() {
        AnyLength x = new AnyLength();
        for (int c = 0; c < 2; c++) {
            x.spot(0, 0, c, 1, 1 + c);
            x.spot(1, 0, c, 1, 0);
            for (int p = 0; p < 2; p++) {
                x.spot(p, 1, c, 2, 0);
                x.spot(p, 2, c, 2, 0);
                x.end(p, 2, STOPS);
            }
        }
        x.end(1, 1, 1);
        due("the second way is wrong", x.agree(0, 0, 1), 0);
        due("the second way is wrong, turned", x.agree(0, 1, 0), 0);
        x.make(1, 4, 1);
        due("only the first way", x.agree(1, 0, 1), 1);
        x.spot(0, 0, 1, 1, 1);
        due("both ways are right", x.agree(0, 0, 1), 1);
        x.spot(0, 0, 1, 1, 5);
        due("the second way is longer", x.agree(0, 0, 1), 0);
    }

    /**
     * Just one row is so and is written: 0 four times and a 1, four times over, then 0 four times.
     * The sentence counts each 0, both programs count each 1. One writes 20 letters ahead of the third 1,
     * the other one all of them behind it.
     */
    private static void agreeByLongLead() {
        AnyLength x = new AnyLength();
        for (int i = 0; i < 6; i++) {
            x.point(0, i, 0, Math.min(i + 1, 5));
            x.point(0, i, 1, i == 4 ? 0 : 5);
            x.holds(0, i, i == 4);
            for (int c = 0; c < 2; c++) {
                int next = c == 0 ? i : Math.min(i + 1, 5);
                x.spot(0, i, c, next, i < 2 ? 1 : i > 2 ? 0 : c == 0 ? 5 : 6);
                x.spot(1, i, c, next, i < 3 ? 0 : 5);
            }
            x.end(0, i, i == 4 ? 0 : STOPS);
            x.end(1, i, i == 4 ? 6 : STOPS);
        }
        due("20 letters ahead", x.agree(0, 0, 1), 1);
        due("20 letters behind", x.agree(0, 1, 0), 1);
        x.end(1, 4, 5);
        due("another last letter", x.agree(0, 0, 1), 0);
        due("another last letter, turned", x.agree(0, 1, 0), 0);
        x.end(1, 4, 1);
        due("one letter less", x.agree(0, 0, 1), 0);
        x.end(1, 4, STOPS);
        due("one stops", x.agree(0, 0, 1), 0);
        x.end(0, 4, STOPS);
        due("both stop", x.agree(0, 0, 1), 1);
    }

    private static void follows() {
        AnyLength x = new AnyLength();
        x.make(0, 3, 6);
        x.make(1, 3, 3);
        x.make(2, 2, 1);
        x.make(3, 5, 1);
        due("by six: by three", x.follows(0, 1), 1);
        due("by three: by six", x.follows(1, 0), 0);
        due("by three: by six", x.unless(1, 0, -1), 3);
        for (int i = 0; i < 3; i++) due("by three: by six " + i, x.unless(1, 0, i), 0);
        due("by three: by six, behind", x.unless(1, 0, 3), NONE);
        due("first 1: has 1", x.follows(3, 2), 1);
        due("first 1: has 1", x.unless(3, 2, -1), NONE);
        due("first 1: has 1", x.unless(3, 2, 0), NONE);
        due("has 1: first 1", x.unless(2, 3, -1), 2);
        due("has 1: first 1", x.unless(2, 3, 0), 0);
        due("has 1: first 1", x.unless(2, 3, 1), 1);
        due("from itself", x.follows(3, 3), 1);
        due("all: has 1", x.unless(4, 2, -1), 0);
        due("i -2", x.unless(2, 3, -2), BAD);
        due("i -2, true", x.unless(3, 2, -2), BAD);
        due("sentence 8 and i -2: what is told first", x.unless(0, 8, -2), UNKNOWN);
        due("from 8", x.follows(8, 0), UNKNOWN);
        due("from -1", x.unless(-1, 0, 0), UNKNOWN);
        due("sentence -1", x.follows(0, -1), UNKNOWN);
        x.letters(4);
        x.make(0, 1, 0);
        x.make(1, 4, 2);
        x.make(2, 6, 3);
        x.both(3, 0, 2);
        x.not(4, 1);
        due("sorted, last 3, has no 2: the first of like ones", x.unless(3, 4, -1), 1);
        due("sorted, last 3, has no 2", x.unless(3, 4, 0), 3);
    }

    private static void rows() {
        AnyLength x = new AnyLength();
        due("all of 0", x.rows(0, 0), 1);
        due("all of 20", x.rows(0, 20), 1L << 20);
        x.make(1, 2, 1);
        due("has 1, of 0", x.rows(1, 0), 0);
        due("has 1, of 10", x.rows(1, 10), 1023);
        due("length 21", x.rows(0, 21), BAD);
        due("length -1", x.rows(0, -1), BAD);
        due("sentence 8, length 21: what is told first", x.rows(8, 21), UNKNOWN);
        due("sentence -1", x.rows(-1, 0), UNKNOWN);
        x.letters(4);
        due("all of 20 by four letters", x.rows(0, 20), 1L << 40);
        x.make(0, 7, 0);
        due("no two alike", x.rows(0, 20), 4L * 1162261467L);
        x.letters(3);
        x.make(0, 1, 0);
        due("sorted of 20 by three letters", x.rows(0, 20), 231);
    }

    private static void lay() {
        AnyLength x = new AnyLength();
        x.letters(4);
        due("the last of all", x.lay(0, 20, (1L << 40) - 1), 3);
        dueRow("the last of all", x, 3, 3, 3, 3, 3, 3, 3, 3, 3, 3, 3, 3, 3, 3, 3, 3, 3, 3, 3, 3);
        due("one beyond", x.lay(0, 20, 1L << 40), BAD);
        due("far beyond", x.lay(0, 20, Long.MAX_VALUE), BAD);
        due("below", x.lay(0, 20, -1), BAD);
        due("far below", x.lay(0, 20, Long.MIN_VALUE), BAD);
        due("length 21", x.lay(0, 21, 0), BAD);
        due("length -1", x.lay(0, -1, 0), BAD);
        due("sentence 8 and place -1: what is told first", x.lay(8, 20, -1), UNKNOWN);
        due("refused changes nothing", x.count(2), 20);
        due("by place", x.lay(0, 3, 27), 1);
        dueRow("by place", x, 1, 2, 3);
        x.make(1, 6, 2);
        due("last is 2", x.lay(1, 3, 7), 1);
        dueRow("last is 2", x, 1, 3, 2);
        due("none of length 0", x.lay(1, 0, 0), BAD);
        due("none but one of length 0", x.lay(0, 0, 0), NONE);
        dueRow("none but one of length 0", x);
        due("of length 0 only one", x.lay(0, 0, 1), BAD);
        due("0 comes first", x.lay(0, 1, 0), 0);
    }

    private static void rank() {
        for (int sentence = 0; sentence < 3; sentence++) {
            for (int length = 0; length <= 4; length++) rankOfEach(sentence, length);
        }
        AnyLength x = threeSentences();
        due("of none", x.rank(1), 0);
        tell(x, 1, 1);
        due("not so", x.rank(1), STATE);
        due("sentence 8", x.rank(8), UNKNOWN);
        due("sentence -1", x.rank(-1), UNKNOWN);
        x.clear();
        for (int i = 0; i < 20; i++) x.letter(2);
        due("of 20", x.rank(0), 3486784400L);
        x.letter(2);
        due("of 21", x.rank(0), FULL);
        due("of 21, not so: what is told first", x.rank(2), STATE);
        x.letter(2);
        due("of 22", x.rank(2), FULL);
    }

    private static AnyLength threeSentences() {
        AnyLength x = ofLetters(3);
        x.make(1, 7, 0);
        x.make(2, 3, 2);
        return x;
    }

    private static void rankOfEach(int sentence, int length) {
        AnyLength x = threeSentences();
        long rows = x.rows(sentence, length);
        for (long i = 0; i < rows; i++) {
            x.lay(sentence, length, i);
            due("rank of " + sentence + " " + length, x.rank(sentence), i);
            due("is of " + sentence + " " + length, x.is(sentence), 1);
        }
    }

    private static void row() {
        AnyLength x = new AnyLength();
        due("clear of none", x.clear(), 0);
        due("at 0 of none", x.at(0), NONE);
        for (int i = 0; i < 24; i++) due("letter", x.letter(i % 2), i + 1);
        due("letter 25", x.letter(0), FULL);
        due("letter 2: what is told first", x.letter(2), UNKNOWN);
        due("letter -1", x.letter(-1), UNKNOWN);
        due("at 23", x.at(23), 1);
        due("at 24", x.at(24), NONE);
        due("at -1", x.at(-1), NONE);
        due("at far off", x.at(Integer.MIN_VALUE), NONE);
        due("count", x.count(2), 24);
        x.make(0, 3, 5);
        x.make(1, 3, 6);
        due("is", x.is(0), 0);
        due("is", x.is(1), 1);
        due("is 8", x.is(8), UNKNOWN);
        due("is -1", x.is(-1), UNKNOWN);
        due("clear", x.clear(), 24);
        due("count", x.count(2), 0);
        due("at 0", x.at(0), NONE);
        due("is of none", x.is(0), 1);
    }

    private static void run() {
        AnyLength x = new AnyLength();
        x.spot(0, 0, 0, 0, 9);
        x.spot(0, 0, 1, 1, 0);
        stayIn(x, 0, 1);
        x.end(0, 0, 5);
        x.end(0, 1, 2);
        tell(x, 0, 0, 1, 1, 0);
        due("run", x.run(0), 7);
        dueRow("1 0 1 0, none, then as they are, and 1", x, 1, 0, 1, 0, 1, 0, 1);
        x.clear();
        due("of none", x.run(0), 2);
        dueRow("of none", x, 0, 0);
        for (int i = 0; i < 2; i++) for (int c = 0; c < 2; c++) x.spot(1, i, c, 1 - i, 10);
        tell(x, 0, 1, 0, 1, 0, 1, 0, 1, 0, 1, 0, 1);
        due("24 at most", x.run(1), 24);
        due("more", x.run(1), FULL);
        dueRow("refused changes nothing", x, 1, 1, 1, 1, 1, 1, 1, 1, 1, 1, 1, 1, 1, 1, 1, 1, 1, 1, 1, 1, 1, 1, 1, 1);
        x.end(1, 0, STOPS);
        due("it stops and more: what is told first", x.run(1), STATE);
        due("refused changes nothing", x.count(2), 24);
        tell(x, 0);
        due("it does not stop", x.run(1), 2);
        due("now it stops", x.run(1), STATE);
        dueRow("refused changes nothing", x, 1, 1);
        for (int c = 0; c < 2; c++) x.spot(2, 0, c, 0, 0);
        due("nothing is written", x.run(2), 0);
        due("program 4", x.run(4), UNKNOWN);
        due("program -1", x.run(-1), UNKNOWN);
        tell(x, 0, 1, 0, 1, 0, 1, 0, 1, 0, 1, 0, 1, 0, 1, 0, 1, 0, 1, 0, 1, 0, 1, 0, 1);
        x.end(3, 0, 1);
        due("one too many by the end", x.run(3), FULL);
    }

    private static void rounds() {
        AnyLength x = new AnyLength();
        tell(x, 0, 1);
        due("at once", x.rounds(0), 0);
        x.clear();
        due("of none at once", x.rounds(0), 0);
        // Each time the first 0 is dropped.
        x.spot(1, 0, 0, 1, 0);
        stayIn(x, 1, 1);
        tell(x, 0, 1, 0, 1, 0, 1);
        due("three times", x.rounds(1), 3);
        dueRow("the row is not changed", x, 0, 1, 0, 1, 0, 1);
        // It goes round for ever.
        x.spot(2, 0, 0, 0, 2);
        x.spot(2, 0, 1, 0, 1);
        due("never", x.rounds(2), NONE);
        x.end(3, 0, 1);
        x.clear();
        due("it grows beyond 24", x.rounds(3), NONE);
        x.end(3, 0, STOPS);
        due("it stops", x.rounds(3), NONE);
        due("program 4", x.rounds(4), UNKNOWN);
        due("program -1", x.rounds(-1), UNKNOWN);
        mostRounds();
        stopsLater();
    }

    /** Each time the first letter that is not 3 becomes one more. */
    private static void mostRounds() {
        AnyLength x = new AnyLength();
        x.letters(4);
        for (int c = 0; c < 3; c++) x.spot(0, 0, c, 1, 2 + c);
        stayIn(x, 0, 1);
        for (int i = 0; i < 19; i++) x.letter(0);
        x.letter(1);
        due("59: the sixtieth time it writes what it reads", x.rounds(0), 59);
        x.clear();
        for (int i = 0; i < 20; i++) x.letter(0);
        due("60 would be one too many", x.rounds(0), NONE);
        x.clear();
        for (int i = 0; i < 24; i++) x.letter(i < 4 ? 0 : 3);
        due("12, of 24 letters", x.rounds(0), 12);
    }

    /** Each time the first 0 becomes 1; where no 0 is left it stops, or writes more than 24 letters. */
    private static void stopsLater() {
        AnyLength x = new AnyLength();
        x.spot(0, 0, 0, 1, 2);
        stayIn(x, 0, 1);
        tell(x, 0, 1, 0);
        due("two times", x.rounds(0), 2);
        x.end(0, 0, STOPS);
        due("the third time it stops", x.rounds(0), NONE);
        x.end(0, 0, 2);
        due("one 1 more each time, beyond 24", x.rounds(0), NONE);
    }

    private static void count() {
        AnyLength x = new AnyLength();
        x.letters(3);
        x.letter(2);
        x.letter(0);
        x.sheet(3, true);
        x.sheet(4, true);
        x.sheet(5, true);
        x.sheet(5, true);
        due("count(0)", x.count(0), 3);
        due("count(1)", x.count(1), 3);
        due("count(2)", x.count(2), 2);
        due("count(3)", x.count(3), BAD);
        due("count(-1)", x.count(-1), BAD);
    }
}
