import java.lang.reflect.InvocationTargetException;
import java.lang.reflect.Method;
import java.util.ArrayList;
import java.util.Arrays;
import java.util.List;

/** What the tests of boundary cases share. No object is asked more than 512 times: the rest is not promised. */
abstract class Edges extends Checks {
    /** Sheet places at which an object of rich() is looked at. */
    private static final int[] SEEN_PLACES = {0, 1, 6, 36, 216, 217, 1294, 1295};

    /** An object of three letters in which little is as at first; the row is 2 0 1 0 2. */
    static AnyLength rich() {
        AnyLength x = ofLetters(3);
        x.make(0, 7, 0);
        x.make(1, 3, 6);
        x.make(2, 6, 2);
        x.make(3, 1, 0);
        x.not(4, 2);
        x.both(5, 2, 4);
        x.point(6, 0, 2, 5);
        x.point(6, 5, 1, 3);
        x.holds(6, 5, false);
        x.point(7, 5, 2, 4);
        x.holds(7, 4, false);
        for (int p = 0; p < 4; p++) {
            x.spot(p, 0, p % 3, 1 + p, 5 + p % 3);
            x.spot(p, 5, 2, 4, 15);
            x.end(p, 1, 2);
        }
        x.sheet(0, true);
        x.sheet(1, true);
        x.sheet(217, true);
        x.sheet(1295, true);
        tell(x, 2, 0, 1, 0, 2);
        return x;
    }

    /** All that can be seen of an object of three letters, by less than 400 calls. */
    static List<Integer> seen(AnyLength x) {
        List<Integer> all = new ArrayList<>();
        int k = x.count(0);
        all.add(k);
        all.add(x.count(1));
        all.add(x.count(2));
        for (int i = 0; i < 24; i++) all.add(x.at(i));
        for (int s = 0; s < 8; s++) for (int p = 0; p < 6; p++) for (int c = 0; c <= k; c++) all.add(x.about(s, p, c));
        for (int q = 0; q < 4; q++) {
            for (int s = 0; s < 6; s++) {
                for (int c = 0; c <= k; c++) all.add(x.of(q, s, c, 1));
                for (int c = 0; c < k; c++) all.add(x.of(q, s, c, 0));
            }
        }
        for (int place : SEEN_PLACES) all.add(x.sheet(place, false));
        return all;
    }

    private static final List<Integer> RICH = seen(rich());

    /** A call by its name; numbers stand for booleans too. */
    static long call(AnyLength x, String name, long... given) {
        for (Method m : AnyLength.class.getDeclaredMethods()) {
            if (!m.getName().equals(name)) continue;
            Object[] values = new Object[given.length];
            for (int i = 0; i < given.length; i++) values[i] = as(m.getParameterTypes()[i], given[i]);
            try {
                return ((Number) m.invoke(x, values)).longValue();
            } catch (InvocationTargetException | IllegalAccessException e) {
                tellWrong(name + Arrays.toString(given) + " threw " + e.getCause());
            }
        }
        return Long.MIN_VALUE;
    }

    private static Object as(Class<?> type, long given) {
        if (type == boolean.class) return given != 0;
        if (type == long.class) return given;
        return (int) given;
    }

    /** A call on an object of rich() that is refused, and changes nothing. */
    static void refused(long want, String name, long... given) {
        AnyLength x = rich();
        String told = name + Arrays.toString(given);
        due(told, call(x, name, given), want);
        if (!seen(x).equals(RICH)) tellWrong(told + " changed something");
    }

    /** A call on an object of rich() that is not refused. */
    static void taken(String name, long... given) {
        long answer = call(rich(), name, given);
        if (answer < 0 && answer != NONE) tellWrong(name + Arrays.toString(given) + " was refused by " + answer);
    }

    /** The numbers that one argument may be. */
    static int[] range(int from, int to) {
        return new int[] {from, to};
    }

    /** An argument that is not looked into here. */
    static int[] fixed() {
        return new int[0];
    }

    /** At both ends of each range a call is taken; one beyond, and far beyond, it is refused. */
    static void refusesBeyond(int want, String name, long[] good, int[]... ranges) {
        taken(name, good);
        for (int i = 0; i < ranges.length; i++) {
            if (ranges[i].length == 0) continue;
            int from = ranges[i][0], to = ranges[i][1];
            for (long edge : new long[] {from, to}) taken(name, with(good, i, edge));
            for (long edge : new long[] {from - 1L, to + 1L, Integer.MIN_VALUE, Integer.MAX_VALUE}) {
                refused(want, name, with(good, i, edge));
            }
        }
    }

    private static long[] with(long[] given, int i, long value) {
        long[] copy = given.clone();
        copy[i] = value;
        return copy;
    }

    static long[] given(long... values) {
        return values;
    }

    /** Rows told as texts: "201". */
    static void tellText(AnyLength x, String row) {
        x.clear();
        for (int i = 0; i < row.length(); i++) x.letter(row.charAt(i) - '0');
    }

    static void dueSo(AnyLength x, int sentence, int want, String... rows) {
        for (String row : rows) {
            tellText(x, row);
            due("is(" + sentence + ") of '" + row + "'", x.is(sentence), want);
        }
    }

    /** Of each point the next ones by letters, and whether it holds; the points beyond are as at first. */
    static void dueSentence(String what, AnyLength x, int sentence, int[]... points) {
        int k = x.count(0);
        for (int p = 0; p < 6; p++) {
            for (int c = 0; c <= k; c++) {
                int asAtFirst = c == k ? 1 : 0;
                int want = p < points.length ? points[p][c] : asAtFirst;
                due(what + ": about(" + sentence + ", " + p + ", " + c + ")", x.about(sentence, p, c), want);
            }
        }
    }

    static void duePicture(String what, AnyLength x, int[] claim, int... row) {
        due(what + ": length", x.picture(claim[0], claim[1], claim[2], claim[3], -1), row.length);
        for (int i = 0; i < row.length; i++) {
            due(what + ": letter " + i, x.picture(claim[0], claim[1], claim[2], claim[3], i), row[i]);
        }
        due(what + ": behind", x.picture(claim[0], claim[1], claim[2], claim[3], row.length), NONE);
    }

    static int[] claim(int ahead, int program, int second, int behind) {
        return new int[] {ahead, program, second, behind};
    }

    /** A sentence of no row. */
    static void makeNone(AnyLength x, int sentence) {
        x.make(sentence, 0, 0);
        x.not(sentence, sentence);
    }

    /** A sentence of the rows whose length leaves a rest when it is divided. */
    static void makeRest(AnyLength x, int sentence, int by, int rest) {
        x.make(sentence, 3, by);
        x.holds(sentence, 0, false);
        x.holds(sentence, rest, true);
    }
}
