/** What all tests share: an answer that is not the one that is due is told and counted. */
abstract class Checks {
    static final int UNKNOWN = -1, BAD = -2, STATE = -3, FULL = -4, NONE = -9, STOPS = -1;
    private static final int MOST_TOLD = 50;
    private static int wrong = 0;
    /** The test that runs; it stands ahead of what is told. */
    private static String running = "";

    static void begin(String test) {
        running = test + ": ";
    }

    static int wrong() {
        return wrong;
    }

    static void due(String call, long got, long want) {
        if (got != want) tellWrong(call + " answered " + got + ", due is " + want);
    }

    static void tellWrong(String what) {
        wrong++;
        if (wrong <= MOST_TOLD) System.out.println(running + what);
    }

    static void finish(String tests) {
        System.out.println(tests + (wrong == 0 ? ": as due" : ": " + wrong + " wrong"));
        if (wrong != 0) System.exit(1);
    }

    static AnyLength ofLetters(int k) {
        AnyLength x = new AnyLength();
        x.letters(k);
        return x;
    }

    static void tell(AnyLength x, int... letters) {
        x.clear();
        for (int c : letters) x.letter(c);
    }

    static void tellMany(AnyLength x, int times, int letter) {
        for (int i = 0; i < times; i++) x.letter(letter);
    }

    static void dueRow(String what, AnyLength x, int... letters) {
        due(what + ": length", x.count(2), letters.length);
        for (int i = 0; i < letters.length; i++) due(what + ": letter " + i, x.at(i), letters[i]);
        due(what + ": behind", x.at(letters.length), NONE);
    }

    /** In a spot all letters are written as they are, and it is not left. */
    static void stayIn(AnyLength x, int program, int spot) {
        for (int c = 0; c < x.count(0); c++) x.spot(program, spot, c, spot, 1 + c);
    }
}
