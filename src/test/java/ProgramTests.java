/** Promises 9 to 18: programs, claims, places and sheets. */
public final class ProgramTests extends Checks {
    public static void main(String[] args) {
        spot();
        words();
        end();
        of();
        claim();
        claimOfTwo();
        claimRefusals();
        picture();
        metAndPlace();
        sheet();
        write();
        check();
        secondSpotIsNotMoved();
        finish("programs and claims");
    }

    private static void spot() {
        AnyLength x = new AnyLength();
        due("spot", x.spot(3, 5, 1, 4, 10), 2);
        due("spot again", x.spot(3, 5, 1, 3, 0), 10);
        due("next", x.of(3, 5, 1, 0), 3);
        due("word", x.of(3, 5, 1, 1), 0);
        due("another letter", x.of(3, 5, 0, 1), 1);
        due("program 4", x.spot(4, 0, 0, 0, 0), UNKNOWN);
        due("program -1", x.spot(-1, 0, 0, 0, 0), UNKNOWN);
        due("spot 6", x.spot(0, 6, 0, 0, 0), UNKNOWN);
        due("spot -1", x.spot(0, -1, 0, 0, 0), UNKNOWN);
        due("letter 2", x.spot(0, 0, 2, 0, 0), UNKNOWN);
        due("letter -1", x.spot(0, 0, -1, 0, 0), UNKNOWN);
        due("next 6, word bad: what is told first", x.spot(0, 0, 0, 6, 99), UNKNOWN);
        due("next -1", x.spot(0, 0, 0, -1, 0), UNKNOWN);
        due("it never stops ahead of the end", x.spot(0, 0, 0, 5, STOPS), BAD);
        due("refused changes nothing", x.of(0, 0, 0, 0), 0);
    }

    /** A word is told by its letters; one that has a letter that is not there is bad. */
    private static void words() {
        for (int k = 2; k <= 4; k++) {
            AnyLength x = new AnyLength();
            x.letters(k);
            for (int word = -3; word <= 24; word++) {
                boolean fits = word == 0 || word >= 1 && word <= k;
                for (int a = 0; a < k; a++) {
                    for (int b = 0; b < k; b++) if (word == 5 + 4 * a + b) fits = true;
                }
                boolean is = x.spot(0, 0, 0, 0, word) != BAD;
                due("k " + k + " word " + word, is ? 1 : 0, fits ? 1 : 0);
                is = x.end(0, 0, word) != BAD;
                due("k " + k + " end " + word, is ? 1 : 0, fits || word == STOPS ? 1 : 0);
            }
        }
    }

    private static void end() {
        AnyLength x = new AnyLength();
        due("end", x.end(2, 4, 9), 0);
        due("end again", x.end(2, 4, STOPS), 9);
        due("it stopped", x.end(2, 4, 1), STOPS);
        due("of", x.of(2, 4, 2, 1), 1);
        due("program 4", x.end(4, 0, 0), UNKNOWN);
        due("spot 6, word bad: what is told first", x.end(0, 6, -2), UNKNOWN);
        due("spot -1", x.end(0, -1, 0), UNKNOWN);
        due("word -2", x.end(2, 4, -2), BAD);
        due("word 3 of two letters", x.end(2, 4, 3), BAD);
        due("word 21", x.end(2, 4, 21), BAD);
        due("refused changes nothing", x.of(2, 4, 2, 1), 1);
    }

    private static void of() {
        AnyLength x = new AnyLength();
        x.letters(3);
        x.spot(1, 2, 2, 5, 15);
        x.end(1, 2, 3);
        due("next", x.of(1, 2, 2, 0), 5);
        due("word", x.of(1, 2, 2, 1), 15);
        due("end", x.of(1, 2, 3, 1), 3);
        due("the end has no next spot", x.of(1, 2, 3, 0), BAD);
        due("what 2", x.of(1, 2, 2, 2), BAD);
        due("what -1", x.of(1, 2, 2, -1), BAD);
        due("what 2 at the end", x.of(1, 2, 3, 2), BAD);
        due("letter 4, what 2: what is told first", x.of(1, 2, 4, 2), UNKNOWN);
        due("letter -1", x.of(1, 2, -1, 0), UNKNOWN);
        due("spot 6", x.of(1, 6, 0, 0), UNKNOWN);
        due("spot -1", x.of(1, -1, 0, 0), UNKNOWN);
        due("program 4", x.of(4, 0, 0, 0), UNKNOWN);
        due("program -1", x.of(-1, 0, 3, 1), UNKNOWN);
    }

    /** Program 0 writes each letter twice; program 1 drops each second letter. */
    private static AnyLength doubling() {
        AnyLength x = new AnyLength();
        x.spot(0, 0, 0, 0, 5);
        x.spot(0, 0, 1, 0, 10);
        x.spot(1, 0, 0, 1, 1);
        x.spot(1, 0, 1, 1, 2);
        x.spot(1, 1, 0, 0, 0);
        x.spot(1, 1, 1, 0, 0);
        x.make(1, 3, 2);
        x.make(2, 2, 1);
        x.make(3, 7, 0);
        return x;
    }

    private static void claim() {
        AnyLength x = doubling();
        due("doubled is even", x.claim(0, 0, -1, 1), 1);
        due("not all rows are even", x.claim(0, 2, -1, 1), 0);
        due("a letter stays there", x.claim(2, 0, -1, 2), 1);
        due("each second letter may be the only one", x.claim(2, 1, -1, 2), 0);
        due("two alike are there", x.claim(3, 0, -1, 3), 0);
        x.end(2, 0, STOPS);
        due("no row is written", x.claim(0, 2, -1, 0), 0);
        for (int p = 0; p < 6; p++) x.holds(4, p, false);
        due("of no row all is so", x.claim(4, 2, -1, 4), 1);
        x.end(2, 0, 2);
        due("the end is read too", x.claim(0, 2, -1, 2), 1);
    }

    private static void claimOfTwo() {
        AnyLength x = doubling();
        due("doubled and halved", x.claim(2, 0, 1, 2), 1);
        due("doubled and halved", x.claim(3, 0, 1, 3), 1);
        due("halved and doubled", x.claim(2, 1, 0, 2), 0);
        due("halved and doubled is even", x.claim(0, 1, 0, 1), 1);
        due("twice halved", x.claim(0, 1, 1, 1), 0);
        x.end(0, 0, 2);
        due("the end of the first is read by the second", x.claim(0, 0, 1, 2), 1);
        x.end(1, 1, STOPS);
        due("the second stops behind an odd row", x.claim(0, 0, 1, 2), 0);
        due("its picture is none long", x.picture(0, 0, 1, 2, -1), 0);
        x.end(0, 0, 0);
        due("the second never stops behind an even row", x.claim(2, 0, 1, 2), 1);
        x.end(0, 0, STOPS);
        due("the first stops", x.claim(0, 0, 1, 0), 0);
    }

    private static void claimRefusals() {
        AnyLength x = new AnyLength();
        int[][] calls = {{8, 0, -1, 0}, {-1, 0, -1, 0}, {0, 4, -1, 0}, {0, -1, -1, 0},
            {0, 0, 4, 0}, {0, 0, -2, 0}, {0, 0, -1, 8}, {0, 0, -1, -1}};
        x.sheet(5, true);
        for (int[] c : calls) {
            String told = java.util.Arrays.toString(c);
            due("claim " + told, x.claim(c[0], c[1], c[2], c[3]), UNKNOWN);
            due("picture " + told, x.picture(c[0], c[1], c[2], c[3], -2), UNKNOWN);
            due("met " + told, x.met(c[0], c[1], c[2], c[3]), UNKNOWN);
            due("place " + told, x.place(c[0], c[1], c[2], c[3], -1), UNKNOWN);
            due("write " + told, x.write(c[0], c[1], c[2], c[3]), UNKNOWN);
            due("check " + told, x.check(c[0], c[1], c[2], c[3]), UNKNOWN);
        }
        due("refused changes nothing", x.sheet(5, true), 1);
        due("refused changes nothing", x.count(1), 1);
    }

    private static void duePicture(String what, AnyLength x, int[] claim, int... row) {
        due(what + ": length", x.picture(claim[0], claim[1], claim[2], claim[3], -1), row.length);
        for (int i = 0; i < row.length; i++) {
            due(what + ": letter " + i, x.picture(claim[0], claim[1], claim[2], claim[3], i), row[i]);
        }
        due(what + ": behind", x.picture(claim[0], claim[1], claim[2], claim[3], row.length), NONE);
    }

    private static void picture() {
        AnyLength x = doubling();
        duePicture("the only 1 is dropped", x, new int[] {2, 1, -1, 2}, 0, 1);
        duePicture("not alike", x, new int[] {3, 0, -1, 3}, 0);
        duePicture("odd", x, new int[] {0, 2, -1, 1}, 0);
        due("true: length", x.picture(0, 0, -1, 1, -1), NONE);
        due("true: letter", x.picture(0, 0, -1, 1, 0), NONE);
        due("i -2", x.picture(0, 0, -1, 1, -2), BAD);
        due("i far off", x.picture(2, 1, -1, 2, Integer.MAX_VALUE), NONE);
        due("i far off", x.picture(2, 1, -1, 2, Integer.MIN_VALUE), BAD);
        x.holds(5, 0, false);
        duePicture("none at all", x, new int[] {0, 2, -1, 5});
        // Of like length the first by letters: 1 0 ends behind 0 1.
        x.make(4, 3, 6);
        x.not(4, 4);
        duePicture("six long", x, new int[] {2, 2, -1, 4}, 0, 0, 0, 0, 0, 1);
    }

    private static void metAndPlace() {
        AnyLength x = doubling();
        due("met", x.met(0, 2, -1, 0), 1);
        due("place 0", x.place(0, 2, -1, 0, 0), 0);
        due("place 1", x.place(0, 2, -1, 0, 1), NONE);
        due("place -1", x.place(0, 2, -1, 0, -1), NONE);
        // Even and 1 is there, doubled, then halved: the sentence ahead walks along with the last one.
        due("met of two", x.met(2, 0, 1, 2), 2);
        due("place 0 of two", x.place(2, 0, 1, 2, 0), 0);
        due("place 1 of two", x.place(2, 0, 1, 2, 1), 217);
        due("place 1 of another claim", x.place(0, 2, -1, 2, 1), 1);
        due("place 1 of two again", x.place(2, 0, 1, 2, 1), 217);
        due("place 2 of two", x.place(2, 0, 1, 2, 2), NONE);
        // Halved first: the spot of the first one is 36, the second one stands still in spot 0.
        due("met", x.met(0, 1, 0, 1), 2);
        due("place 1", x.place(0, 1, 0, 1, 1), 36);
        due("met by the second", x.met(0, 2, 1, 0), 2);
        due("place of the second spot", x.place(0, 2, 1, 0, 1), 6);
        // Rows that are not so are walked too.
        for (int p = 0; p < 6; p++) x.holds(1, p, false);
        due("met of no row", x.met(1, 2, -1, 0), 2);
        due("place of no row", x.place(1, 2, -1, 0, 1), 216);
        allPlaces();
    }

    /** Four letters that each move something of its own: every place of 1296 is met. */
    private static void allPlaces() {
        AnyLength x = new AnyLength();
        x.letters(4);
        for (int i = 0; i < 6; i++) {
            int next = (i + 1) % 6;
            for (int c = 0; c < 4; c++) {
                x.point(0, i, c, c == 0 ? next : i);
                x.spot(0, i, c, c == 1 ? next : i, c == 0 || c == 1 ? 0 : c + 1);
                x.spot(1, i, c, c == 2 ? next : i, c == 2 ? 0 : c + 1);
                x.point(1, i, c, c == 3 ? next : i);
            }
        }
        due("all are met", x.met(0, 0, 1, 1), 1296);
        due("all are met: the last one", x.place(0, 0, 1, 1, 1295), 1295);
        due("all are met: none behind", x.place(0, 0, 1, 1, 1296), NONE);
        due("all are written", x.write(0, 0, 1, 1), 1296);
        due("all are written", x.count(1), 1296);
        due("all are kept", x.check(0, 0, 1, 1), 0);
        for (int i = 0; i < 5; i++) x.holds(0, i, false);
        x.end(0, 5, 3);
        x.end(1, 5, 4);
        x.holds(1, 5, false);
        // 0 five times for the first point; then a last 3 five times is the shortest way to a bad end.
        due("a long picture", x.picture(0, 0, 1, 1, -1), 10);
        due("a long picture starts by 0", x.picture(0, 0, 1, 1, 0), 0);
        due("a long picture ends by 3", x.picture(0, 0, 1, 1, 9), 3);
        due("now one is bad", x.check(0, 0, 1, 1), 3);
    }

    private static void sheet() {
        AnyLength x = new AnyLength();
        due("sheet(0)", x.sheet(0, true), 0);
        due("sheet(0) again", x.sheet(0, true), 1);
        due("sheet(1295)", x.sheet(1295, true), 0);
        due("count", x.count(1), 2);
        due("sheet(0) off", x.sheet(0, false), 1);
        due("sheet(0) off again", x.sheet(0, false), 0);
        due("count", x.count(1), 1);
        due("sheet(1296)", x.sheet(1296, true), BAD);
        due("sheet(-1)", x.sheet(-1, true), BAD);
        due("count", x.count(1), 1);
    }

    private static void write() {
        AnyLength x = doubling();
        x.sheet(7, true);
        due("write", x.write(2, 0, 1, 2), 2);
        due("what was told is gone", x.sheet(7, false), 0);
        due("0 is in it", x.sheet(0, true), 1);
        due("217 is in it", x.sheet(217, true), 1);
        due("count", x.count(1), 2);
        due("of a claim that is not true too", x.write(0, 2, -1, 1), 2);
        due("place 1", x.sheet(1, true), 1);
    }

    private static void check() {
        AnyLength x = doubling();
        due("none at first", x.check(0, 0, -1, 0), 1);
        x.write(2, 0, 1, 2);
        due("kept", x.check(2, 0, 1, 2), 0);
        due("other claims have other places", x.check(0, 1, -1, 0), 2);
        x.sheet(217, false);
        due("a letter leads out", x.check(2, 0, 1, 2), 2);
        x.sheet(0, false);
        due("0 is not in it", x.check(2, 0, 1, 2), 1);
        x.write(2, 1, -1, 2);
        due("a bad one", x.check(2, 1, -1, 2), 3);
        // Bad and a way out: what fails first is told.
        x.sheet(1295, true);
        x.point(2, 5, 0, 5);
        due("a way out is told ahead of a bad one", x.check(2, 1, -1, 2), 2);
        // More than what is met may be in it, if it is kept.
        x.write(2, 0, 1, 2);
        x.sheet(1, true);
        due("one more that leads into it", x.check(2, 0, 1, 2), 0);
        x.sheet(216, true);
        due("one more that is bad", x.check(2, 0, 1, 2), 3);
    }

    /** Of one program the second spot stays what the sheet says, and its end is not looked at. */
    private static void secondSpotIsNotMoved() {
        AnyLength x = new AnyLength();
        x.sheet(0, true);
        x.sheet(6, true);
        due("kept: 6 leads to 6", x.check(0, 0, -1, 0), 0);
        due("by two programs 6 leads to 0", x.check(0, 0, 0, 0), 0);
        x.sheet(6, false);
        x.sheet(12, true);
        x.spot(0, 2, 0, 1, 1);
        due("of one program 12 leads to 12", x.check(0, 1, -1, 0), 0);
        due("of two 12 leads to 6", x.check(0, 1, 0, 0), 2);
        x.end(0, 2, STOPS);
        x.spot(0, 2, 0, 2, 1);
        due("of two 12 stops", x.check(0, 1, 0, 0), 3);
        due("of one it does not", x.check(0, 1, -1, 0), 0);
    }
}
