/** Promises 1 to 8: a new object, letters and sentences. */
public final class SentenceTests extends Checks {
    public static void main(String[] args) {
        newObject();
        letters();
        point();
        holds();
        makeKinds();
        makeNumbering();
        makeRefusals();
        not();
        both();
        about();
        finish("sentences");
    }

    /** All sentences, programs, the sheet and the row as at first. */
    private static void dueAsAtFirst(String when, AnyLength x, int k) {
        due(when + " count(0)", x.count(0), k);
        due(when + " count(1)", x.count(1), 0);
        due(when + " count(2)", x.count(2), 0);
        for (int s = 0; s < 8; s++) {
            for (int p = 0; p < 6; p++) due(when + " about " + s + p, x.about(s, p, k - 1), 0);
            for (int p = 0; p < 6; p++) due(when + " holds " + s + p, x.about(s, p, k), 1);
        }
        for (int q = 0; q < 4; q++) {
            for (int p = 0; p < 6; p++) due(when + " of word " + q + p, x.of(q, p, k - 1, 1), k);
            for (int p = 0; p < 6; p++) due(when + " of end " + q + p, x.of(q, p, k, 1), 0);
        }
    }

    private static void newObject() {
        dueAsAtFirst("new", new AnyLength(), 2);
        AnyLength one = new AnyLength();
        AnyLength other = new AnyLength();
        one.make(0, 2, 1);
        one.letter(1);
        one.sheet(7, true);
        one.spot(0, 0, 0, 1, 0);
        dueAsAtFirst("another one", other, 2);
    }

    private static void letters() {
        AnyLength x = new AnyLength();
        due("letters(4)", x.letters(4), 2);
        x.make(3, 7, 0);
        x.spot(2, 3, 3, 5, 20);
        x.end(2, 3, -1);
        x.sheet(1295, true);
        x.letter(3);
        due("letters(5)", x.letters(5), BAD);
        due("letters(1)", x.letters(1), BAD);
        due("letters(-3)", x.letters(-3), BAD);
        due("refused: row stays", x.count(2), 1);
        due("refused: sheet stays", x.count(1), 1);
        due("refused: word stays", x.of(2, 3, 3, 1), 20);
        due("letters(4) again", x.letters(4), 4);
        dueAsAtFirst("letters(4) again", x, 4);
        due("letters(3)", x.letters(3), 4);
        dueAsAtFirst("letters(3)", x, 3);
        due("letters(2)", x.letters(2), 3);
        due("letter(2) of two", x.letter(2), UNKNOWN);
    }

    private static void point() {
        AnyLength x = new AnyLength();
        due("point", x.point(7, 5, 1, 4), 0);
        due("point again", x.point(7, 5, 1, 5), 4);
        due("about", x.about(7, 5, 1), 5);
        due("about the other letter", x.about(7, 5, 0), 0);
        due("about another sentence", x.about(6, 5, 1), 0);
        due("sentence 8", x.point(8, 0, 0, 0), UNKNOWN);
        due("sentence -1", x.point(-1, 0, 0, 0), UNKNOWN);
        due("point 6", x.point(0, 6, 0, 0), UNKNOWN);
        due("point -1", x.point(0, -1, 0, 0), UNKNOWN);
        due("letter 2", x.point(0, 0, 2, 0), UNKNOWN);
        due("letter -1", x.point(0, 0, -1, 0), UNKNOWN);
        due("next 6", x.point(7, 5, 1, 6), UNKNOWN);
        due("next -1", x.point(7, 5, 1, -1), UNKNOWN);
        due("refused changes nothing", x.about(7, 5, 1), 5);
    }

    private static void holds() {
        AnyLength x = new AnyLength();
        due("holds", x.holds(0, 0, false), 1);
        due("holds again", x.holds(0, 0, false), 0);
        due("is", x.is(0), 0);
        due("holds back", x.holds(0, 0, true), 0);
        due("is", x.is(0), 1);
        due("sentence 8", x.holds(8, 0, false), UNKNOWN);
        due("point 6", x.holds(0, 6, false), UNKNOWN);
        due("point -1", x.holds(0, -1, false), UNKNOWN);
    }

    /** Whether a row is so by a kind, told by the words of the document. */
    private static boolean isSo(int kind, int a, int[] row) {
        boolean sorted = true, alike = false, has = false;
        for (int i = 0; i < row.length; i++) {
            if (row[i] == a) has = true;
            if (i > 0 && row[i] < row[i - 1]) sorted = false;
            if (i > 0 && row[i] == row[i - 1]) alike = true;
        }
        switch (kind) {
            case 1: return sorted;
            case 2: return has;
            case 3: return row.length % a == 0;
            case 4: return !has;
            case 5: return row.length > 0 && row[0] == a;
            case 6: return row.length > 0 && row[row.length - 1] == a;
            case 7: return !alike;
            default: return true;
        }
    }

    private static int fewestPoints(int kind, int a, int k) {
        switch (kind) {
            case 0: return 1;
            case 1: return k + 1;
            case 3: return a;
            case 5: return 3;
            case 7: return k + 2;
            default: return 2;
        }
    }

    private static void makeKinds() {
        for (int k = 2; k <= 4; k++) {
            for (int kind = 0; kind < 8; kind++) {
                for (int a = 0; a <= 6; a++) {
                    boolean asksLetter = kind == 2 || kind == 4 || kind == 5 || kind == 6;
                    if (asksLetter && a >= k || kind == 3 && a < 1) continue;
                    makeOne(k, kind, a);
                }
            }
        }
    }

    private static AnyLength made(int k, int kind, int a) {
        AnyLength x = ofLetters(k);
        for (int p = 0; p < 6; p++) {
            x.holds(5, p, false);
            for (int c = 0; c < k; c++) x.point(5, p, c, 5 - p);
        }
        due("k " + k + " make(5, " + kind + ", " + a + ")", x.make(5, kind, a), fewestPoints(kind, a, k));
        return x;
    }

    private static void makeOne(int k, int kind, int a) {
        String what = "k " + k + " make(5, " + kind + ", " + a + ")";
        AnyLength x = made(k, kind, a);
        int points = fewestPoints(kind, a, k);
        for (int p = points; p < 6; p++) {
            for (int c = 0; c < k; c++) due(what + " beyond", x.about(5, p, c), 0);
            due(what + " beyond", x.about(5, p, k), 1);
        }
        dueMetInOrder(what, x, k, points);
        for (int length = 0; length <= (k == 2 ? 7 : 5); length++) dueRows(what, k, kind, a, length);
    }

    private static void dueMetInOrder(String what, AnyLength x, int k, int points) {
        int known = 1;
        for (int p = 0; p < points; p++) {
            for (int c = 0; c < k; c++) {
                int to = x.about(5, p, c);
                if (to > known) due(what + " skips a number at " + p + " " + c, to, known);
                if (to == known) known++;
            }
        }
        due(what + " meets", known, points);
    }

    private static void dueRows(String what, int k, int kind, int a, int length) {
        int[] row = new int[length];
        do {
            AnyLength x = made(k, kind, a);
            tell(x, row);
            due(what + " " + java.util.Arrays.toString(row), x.is(5), isSo(kind, a, row) ? 1 : 0);
        } while (nextRow(row, k));
    }

    private static boolean nextRow(int[] row, int k) {
        for (int i = row.length - 1; i >= 0; i--) {
            if (++row[i] < k) return true;
            row[i] = 0;
        }
        return false;
    }

    private static void makeNumbering() {
        AnyLength x = new AnyLength();
        x.letters(3);
        x.make(0, 5, 0);
        due("first letter 0: the good point is met first", x.about(0, 1, 3), 1);
        x.make(0, 5, 2);
        due("first letter 2: the other one is met first", x.about(0, 1, 3), 0);
        due("first letter 2", x.about(0, 0, 2), 2);
        x.make(0, 1, 0);
        due("sorted: letter 2", x.about(0, 0, 2), 2);
        due("sorted: where it fails", x.about(0, 1, 0), 3);
        due("sorted: stays failed", x.about(0, 3, 2), 3);
        due("all of it anew", x.make(0, 0, 99), 1);
        due("all of it anew", x.about(0, 0, 2), 0);
        due("all of it anew", x.about(0, 3, 3), 1);
    }

    private static void makeRefusals() {
        AnyLength x = new AnyLength();
        x.make(0, 2, 1);
        due("sentence 8, kind 8", x.make(8, 8, 0), UNKNOWN);
        due("sentence -1", x.make(-1, 0, 0), UNKNOWN);
        due("kind 8", x.make(0, 8, 0), BAD);
        due("kind -1", x.make(0, -1, 0), BAD);
        for (int kind : new int[] {2, 4, 5, 6}) {
            due("letter 2 of kind " + kind, x.make(0, kind, 2), UNKNOWN);
            due("letter -1 of kind " + kind, x.make(0, kind, -1), UNKNOWN);
        }
        due("divided by 0", x.make(0, 3, 0), BAD);
        due("divided by 7", x.make(0, 3, 7), BAD);
        due("divided by -1", x.make(0, 3, -1), BAD);
        due("refused changes nothing", x.about(0, 0, 1), 1);
        due("refused changes nothing", x.about(0, 0, 2), 0);
        due("a is not looked at, kind 0", x.make(0, 0, Integer.MIN_VALUE), 1);
        due("a is not looked at, kind 1", x.make(0, 1, Integer.MAX_VALUE), 3);
        due("a is not looked at, kind 7", x.make(0, 7, -1), 4);
    }

    private static void not() {
        AnyLength x = new AnyLength();
        x.make(0, 5, 1);
        due("not", x.not(1, 0), 2);
        due("points come along", x.about(1, 0, 1), 2);
        due("point 0", x.about(1, 0, 2), 1);
        due("point 2", x.about(1, 2, 2), 0);
        due("point 5, not met", x.about(1, 5, 2), 0);
        due("the other one is not changed", x.about(0, 2, 2), 1);
        due("not of itself", x.not(1, 1), 4);
        due("not of itself", x.about(1, 2, 2), 1);
        due("sentence 8", x.not(8, 0), UNKNOWN);
        due("other 8", x.not(0, 8), UNKNOWN);
        due("other -1", x.not(0, -1), UNKNOWN);
        due("refused changes nothing", x.about(0, 2, 2), 1);
    }

    private static void both() {
        AnyLength x = new AnyLength();
        x.make(0, 3, 2);
        x.make(1, 6, 1);
        due("both", x.both(2, 0, 1), 4);
        int[][] next = {{1, 2}, {0, 3}, {0, 3}, {1, 2}};
        int[] holding = {0, 0, 0, 1, 1, 1};
        for (int p = 0; p < 4; p++) {
            for (int c = 0; c < 2; c++) due("both " + p + c, x.about(2, p, c), next[p][c]);
        }
        for (int p = 0; p < 6; p++) due("both holds " + p, x.about(2, p, 2), holding[p]);
        due("beyond", x.about(2, 4, 1), 0);
        due("into one of the two", x.both(0, 0, 1), 4);
        for (int p = 0; p < 4; p++) due("into one of the two " + p, x.about(0, p, 1), next[p][1]);
        due("of itself", x.both(1, 1, 1), 2);
        due("of itself", x.about(1, 1, 2), 1);
        x.make(3, 3, 6);
        due("six are not too many", x.both(4, 3, 5), 6);
        due("more than six", x.both(3, 3, 1), FULL);
        due("refused changes nothing", x.about(3, 5, 0), 0);
        due("refused changes nothing", x.about(3, 4, 0), 5);
        due("sentence 8", x.both(8, 0, 0), UNKNOWN);
        due("other 8", x.both(0, 8, 0), UNKNOWN);
        due("third -1", x.both(0, 0, -1), UNKNOWN);
    }

    private static void about() {
        AnyLength x = new AnyLength();
        x.letters(4);
        x.point(1, 2, 3, 4);
        x.holds(1, 2, false);
        due("next", x.about(1, 2, 3), 4);
        due("holds", x.about(1, 2, 4), 0);
        due("letter 5", x.about(1, 2, 5), UNKNOWN);
        due("letter -1", x.about(1, 2, -1), UNKNOWN);
        due("point 6", x.about(1, 6, 0), UNKNOWN);
        due("point -1", x.about(1, -1, 4), UNKNOWN);
        due("sentence 8", x.about(8, 0, 0), UNKNOWN);
        due("sentence -1", x.about(-1, 0, 4), UNKNOWN);
    }
}
