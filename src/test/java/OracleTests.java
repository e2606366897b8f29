import java.util.ArrayList;
import java.util.Arrays;
import java.util.HashMap;
import java.util.HashSet;
import java.util.List;
import java.util.Map;
import java.util.Random;
import java.util.Set;
import java.util.TreeSet;

/** Questions about sentences and programs made by chance (by a fixed seed), asked of a plain second model too. */
public final class OracleTests extends Checks {
    private static final int MOST_CALLS = 512, RUNS = 5;
    private static final Map<String, Integer> seen = new HashMap<>();

    private final Random chance;
    private AnyLength object = new AnyLength();
    private int asked = 0;
    private final int k;
    private final int[][][] next = new int[8][6][4];
    private final boolean[][] holds = new boolean[8][6];
    private final int[][][] to = new int[4][6][4];
    private final int[][][] word = new int[4][6][4];
    private final int[][] end = new int[4][6];
    private final List<int[]> rows = new ArrayList<>();
    private final int longest;

    private OracleTests(long seed) {
        chance = new Random(seed);
        k = 2 + (int) (seed % 3);
        longest = k == 2 ? 8 : k == 3 ? 5 : 4;
        x().letters(k);
        for (int length = 0; length <= longest; length++) addRows(new int[length]);
        for (boolean[] h : holds) Arrays.fill(h, true);
        for (int[][] p : word) for (int[] s : p) for (int c = 0; c < 4; c++) s[c] = 1 + c;
        for (int s = 0; s < 8; s++) chanceSentence(s);
        for (int p = 0; p < 4; p++) chanceProgram(p);
        if (chance.nextBoolean()) kinProgram(0, 1);
        if (chance.nextBoolean()) lateProgram(2, 3);
    }

    public static void main(String[] args) {
        for (long seed = 1; seed <= 1500; seed++) new OracleTests(seed).all(seed);
        System.out.println(new java.util.TreeMap<>(seen));
        for (String kind : List.of("agree 0", "agree 1", "claim 0", "claim 1", "stays 0", "stays 1", "check 0",
                "check 1", "check 2", "check 3", "follows 0", "follows 1", "both full", "both fits", "lead 1")) {
            if (seen.getOrDefault(kind, 0) < 20) tellWrong("too few cases: " + kind);
        }
        finish("oracle");
    }

    // ---- no object is asked more often than is promised

    /** The object, for one call; in its place a new one in which sentences and programs are the same. */
    private AnyLength x() {
        room(1);
        asked++;
        return object;
    }

    /** Ahead of calls that need the row or the sheet of those ahead of them. */
    private void room(int calls) {
        if (asked + calls > MOST_CALLS) renew();
        if (asked + calls > MOST_CALLS) tellWrong("no room for " + calls + " calls");
    }

    private void renew() {
        object = new AnyLength();
        asked = 0;
        x().letters(k);
        for (int s = 0; s < 8; s++) {
            for (int p = 0; p < 6; p++) {
                if (!holds[s][p]) x().holds(s, p, false);
                for (int c = 0; c < k; c++) if (next[s][p][c] != 0) x().point(s, p, c, next[s][p][c]);
            }
        }
        for (int p = 0; p < 4; p++) {
            for (int s = 0; s < 6; s++) {
                if (end[p][s] != 0) x().end(p, s, end[p][s]);
                for (int c = 0; c < k; c++) x().spot(p, s, c, to[p][s][c], word[p][s][c]);
            }
        }
    }

    private static void note(String kind) {
        seen.merge(kind, 1, Integer::sum);
    }

    private void addRows(int[] row) {
        while (true) {
            rows.add(row.clone());
            int i = row.length - 1;
            while (i >= 0 && row[i] == k - 1) row[i--] = 0;
            if (i < 0) return;
            row[i]++;
        }
    }

    // ---- by chance

    private void chanceSentence(int s) {
        int points = 1 + chance.nextInt(6);
        int denom = 1 + chance.nextInt(4);
        for (int p = 0; p < points; p++) {
            setHolds(s, p, chance.nextInt(4) < denom);
            for (int c = 0; c < k; c++) setPoint(s, p, c, chance.nextInt(points));
        }
    }

    private void setHolds(int s, int p, boolean is) {
        due("holds", x().holds(s, p, is), holds[s][p] ? 1 : 0);
        holds[s][p] = is;
    }

    private void setPoint(int s, int p, int c, int n) {
        due("point", x().point(s, p, c, n), next[s][p][c]);
        next[s][p][c] = n;
    }

    private int chanceWord(int longestWord) {
        int length = chance.nextInt(longestWord + 1);
        if (length == 0) return 0;
        if (length == 1) return 1 + chance.nextInt(k);
        return 5 + 4 * chance.nextInt(k) + chance.nextInt(k);
    }

    private void chanceProgram(int p) {
        int spots = 1 + chance.nextInt(chance.nextBoolean() ? 6 : 2);
        int shape = chance.nextInt(4);
        for (int s = 0; s < spots; s++) {
            for (int c = 0; c < k; c++) {
                int w = shape == 0 ? chanceWord(2) : chance.nextInt(3) == 0 ? chanceWord(1) : 1 + c;
                setSpot(p, s, c, chance.nextInt(spots), shape == 3 ? 1 + c : w);
            }
            setEnd(p, s, chance.nextInt(8) == 0 ? STOPS : shape == 3 || chance.nextInt(3) > 0 ? 0 : chanceWord(2));
        }
    }

    private void setSpot(int p, int s, int c, int n, int w) {
        due("spot", x().spot(p, s, c, n, w), word[p][s][c]);
        to[p][s][c] = n;
        word[p][s][c] = w;
    }

    private void setEnd(int p, int s, int w) {
        due("end", x().end(p, s, w), end[p][s]);
        end[p][s] = w;
    }

    /** The same program with other numbers for its spots; now and then one thing in it differs. */
    private void kinProgram(int p, int q) {
        int[] name = {0, 1, 2, 3, 4, 5};
        for (int i = 5; i > 1; i--) {
            int j = 1 + chance.nextInt(i);
            int was = name[i];
            name[i] = name[j];
            name[j] = was;
        }
        for (int s = 0; s < 6; s++) {
            for (int c = 0; c < k; c++) setSpot(q, name[s], c, name[to[p][s][c]], word[p][s][c]);
            setEnd(q, name[s], end[p][s]);
        }
        if (chance.nextInt(3) == 0) setEnd(q, chance.nextInt(6), chanceWord(1));
    }

    /** Program p writes a letter at once on the way into some spot; program q writes it on the way out. */
    private void lateProgram(int p, int q) {
        int spots = 2 + chance.nextInt(5);
        int late = 1 + chance.nextInt(spots - 1);
        int letter = chance.nextInt(k);
        for (int s = 0; s < spots; s++) {
            for (int c = 0; c < k; c++) {
                int n = chance.nextInt(spots);
                List<Integer> core = new ArrayList<>();
                if (chance.nextInt(3) > 0) core.add(chance.nextBoolean() ? c : chance.nextInt(k));
                List<Integer> early = new ArrayList<>(core);
                List<Integer> after = new ArrayList<>(core);
                if (n == late) early.add(letter);
                if (s == late) after.add(0, letter);
                setSpot(p, s, c, n, number(early));
                setSpot(q, s, c, n, number(after));
            }
            int e = chance.nextInt(6) == 0 ? STOPS : chanceWord(1);
            setEnd(p, s, e);
            if (e == STOPS) {
                setEnd(q, s, e);
            } else {
                List<Integer> after = new ArrayList<>(lettersOf(e));
                if (s == late) after.add(0, letter);
                setEnd(q, s, number(after));
            }
        }
        note("lead 1");
        if (chance.nextInt(4) == 0) setEnd(q, chance.nextInt(spots), chanceWord(2));
    }

    private static int number(List<Integer> letters) {
        if (letters.isEmpty()) return 0;
        if (letters.size() == 1) return 1 + letters.get(0);
        return 5 + 4 * letters.get(0) + letters.get(1);
    }

    private static List<Integer> lettersOf(int w) {
        if (w == 0) return List.of();
        if (w < 5) return List.of(w - 1);
        return List.of((w - 5) / 4, (w - 5) % 4);
    }

    // ---- the plain model

    private boolean isSo(int s, int[] row) {
        int p = 0;
        for (int c : row) p = next[s][p][c];
        return holds[s][p];
    }

    /** What a program writes, or null. */
    private int[] written(int p, int[] row) {
        List<Integer> all = new ArrayList<>();
        int s = 0;
        for (int c : row) {
            all.addAll(lettersOf(word[p][s][c]));
            s = to[p][s][c];
        }
        if (end[p][s] == STOPS) return null;
        all.addAll(lettersOf(end[p][s]));
        return all.stream().mapToInt(Integer::intValue).toArray();
    }

    private boolean claimFails(int a, int p, int q, int b, int[] row) {
        if (!isSo(a, row)) return false;
        int[] w = written(p, row);
        if (w != null && q >= 0) w = written(q, w);
        return w == null || !isSo(b, w);
    }

    private static int timesIn(int[] row, int letter) {
        int n = 0;
        for (int c : row) if (c == letter) n++;
        return n;
    }

    // ---- what is asked

    private void all(long seed) {
        String at = "seed " + seed + " ";
        for (int i = 0; i < 4; i++) {
            claim(at, chance.nextInt(8), chance.nextInt(4), chance.nextInt(5) - 1, chance.nextInt(8));
            stays(at, chance.nextInt(8), chance.nextInt(4), chance.nextInt(k));
            follows(at, chance.nextInt(8), chance.nextInt(8));
            rowsAndPlaces(at, chance.nextInt(8), chance.nextInt(longest + 1));
            runs(at, chance.nextInt(4));
        }
        agree(at, 0, 0, 1);
        agree(at, chance.nextInt(8), 0, 1);
        agree(at, chance.nextInt(8), 2, 3);
        agree(at, chance.nextInt(8), 3, 2);
        agree(at, chance.nextInt(8), chance.nextInt(4), chance.nextInt(4));
        bothAndNot(at);
    }

    private void claim(String at, int a, int p, int q, int b) {
        String what = at + "claim " + a + " " + p + " " + q + " " + b;
        int is = x().claim(a, p, q, b);
        note("claim " + is);
        int length = x().picture(a, p, q, b, -1);
        due(what + " and picture", length == NONE ? 1 : 0, is);
        int[] first = null;
        for (int[] row : rows) {
            if (first == null && claimFails(a, p, q, b, row)) first = row;
        }
        if (first != null) due(what + " length", length, first.length);
        else if (length != NONE && length <= longest) due(what + " length", length, NONE);
        if (length != NONE) {
            int[] row = new int[length];
            for (int i = 0; i < length; i++) row[i] = x().picture(a, p, q, b, i);
            if (!claimFails(a, p, q, b, row)) due(what + " picture", 0, 1);
            if (first != null && !Arrays.equals(first, row)) due(what + " first by letters", 0, 1);
            due(what + " behind", x().picture(a, p, q, b, length), NONE);
        }
        places(what, a, p, q, b, is == 1);
    }

    private int step(int place, int c, int a, int p, int q, int b) {
        int p0 = place / 216, s0 = place / 36 % 6, s1 = place / 6 % 6, p1 = place % 6;
        for (int y : lettersOf(word[p][s0][c])) {
            if (q < 0) {
                p1 = next[b][p1][y];
            } else {
                for (int z : lettersOf(word[q][s1][y])) p1 = next[b][p1][z];
                s1 = to[q][s1][y];
            }
        }
        return 216 * next[a][p0][c] + 36 * to[p][s0][c] + 6 * s1 + p1;
    }

    private boolean isBad(int place, int a, int p, int q, int b) {
        int s0 = place / 36 % 6, s1 = place / 6 % 6, p1 = place % 6;
        if (!holds[a][place / 216]) return false;
        if (end[p][s0] == STOPS) return true;
        for (int y : lettersOf(end[p][s0])) {
            if (q < 0) {
                p1 = next[b][p1][y];
                continue;
            }
            for (int z : lettersOf(word[q][s1][y])) p1 = next[b][p1][z];
            s1 = to[q][s1][y];
        }
        if (q < 0) return !holds[b][p1];
        if (end[q][s1] == STOPS) return true;
        for (int z : lettersOf(end[q][s1])) p1 = next[b][p1][z];
        return !holds[b][p1];
    }

    private void places(String what, int a, int p, int q, int b, boolean isTrue) {
        TreeSet<Integer> met = new TreeSet<>();
        List<Integer> open = new ArrayList<>(List.of(0));
        while (!open.isEmpty()) {
            int place = open.remove(open.size() - 1);
            if (!met.add(place)) continue;
            for (int c = 0; c < k; c++) open.add(step(place, c, a, p, q, b));
        }
        due(what + " met", x().met(a, p, q, b), met.size());
        int i = 0;
        for (int place : met) due(what + " place " + i, x().place(a, p, q, b, i++), place);
        due(what + " place behind", x().place(a, p, q, b, i), NONE);
        room(8);
        due(what + " write", x().write(a, p, q, b), met.size());
        due(what + " check of what is met", x().check(a, p, q, b), isTrue ? 0 : 3);
        note("check " + (isTrue ? 0 : 3));
        Set<Integer> sheet = new TreeSet<>(met);
        for (int n = 0; n < 2; n++) {
            int place = n == 0 ? chance.nextInt(1296) : met.first() + chance.nextInt(met.last() + 1);
            boolean is = chance.nextBoolean();
            due(what + " sheet", x().sheet(place, is), sheet.contains(place) ? 1 : 0);
            if (is) sheet.add(place);
            else sheet.remove(place);
            int fault = fault(sheet, a, p, q, b);
            note("check " + fault);
            due(what + " check", x().check(a, p, q, b), fault);
            due(what + " count", x().count(1), sheet.size());
        }
    }

    private int fault(Set<Integer> sheet, int a, int p, int q, int b) {
        if (!sheet.contains(0)) return 1;
        boolean bad = false;
        for (int place : sheet) {
            bad |= isBad(place, a, p, q, b);
            for (int c = 0; c < k; c++) if (!sheet.contains(step(place, c, a, p, q, b))) return 2;
        }
        return bad ? 3 : 0;
    }

    /** All that is over behind each length, up to more letters than the shortest row can need. */
    private void stays(String at, int s, int p, int letter) {
        Set<List<Integer>> now = new HashSet<>(Set.of(List.of(0, 0, 0)));
        int found = NONE;
        for (int length = 0; length <= 80 && found == NONE; length++) {
            Set<List<Integer>> then = new HashSet<>();
            for (List<Integer> n : now) {
                int point = n.get(0), spot = n.get(1), over = n.get(2);
                int e = end[p][spot];
                if (holds[s][point] && e != STOPS && over + times(e, letter) != 0) found = length;
                for (int c = 0; c < k; c++) {
                    int o = over + times(word[p][spot][c], letter) - (c == letter ? 1 : 0);
                    then.add(List.of(next[s][point][c], to[p][spot][c], o));
                }
            }
            now = then;
        }
        String what = at + "witness " + s + " " + p + " " + letter;
        due(what, x().witness(s, p, letter), found);
        due(what + " stays", x().stays(s, p, letter), found == NONE ? 1 : 0);
        note("stays " + (found == NONE ? 1 : 0));
        int byRows = NONE;
        for (int[] row : rows) {
            int[] w = written(p, row);
            if (byRows != NONE || w == null || !isSo(s, row)) continue;
            if (timesIn(row, letter) != timesIn(w, letter)) byRows = row.length;
        }
        if (byRows != NONE) due(what + " by rows", found, byRows);
    }

    private static int times(int w, int letter) {
        int n = 0;
        for (int c : lettersOf(w)) if (c == letter) n++;
        return n;
    }

    private void agree(String at, int s, int p, int q) {
        String what = at + "agree " + s + " " + p + " " + q;
        int is = x().agree(s, p, q);
        note("agree " + is);
        for (int[] row : rows) {
            if (isSo(s, row) && !Arrays.equals(written(p, row), written(q, row))) {
                due(what + " by rows", is, 0);
                return;
            }
        }
        int plain = plainAgree(s, p, q);
        if (plain < 0) note("agree not told");
        else due(what, is, plain);
    }

    /** Walks along all that differs, as texts; -1: too much of it. */
    private int plainAgree(int s, int p, int q) {
        Set<Integer> live = live(s, p, q);
        Set<String> known = new HashSet<>();
        List<String[]> open = new ArrayList<>();
        open.add(new String[] {"0", "0", "0", "", ""});
        for (int i = 0; i < open.size(); i++) {
            if (i > 4000) return -1;
            String[] n = open.get(i);
            if (!known.add(String.join(",", n))) continue;
            int a = Integer.parseInt(n[0]), b = Integer.parseInt(n[1]), c = Integer.parseInt(n[2]);
            if (holds[s][a] && (end[p][b] == STOPS) != (end[q][c] == STOPS)) return 0;
            if (holds[s][a] && end[p][b] != STOPS) {
                if (!(n[3] + text(end[p][b])).equals(n[4] + text(end[q][c]))) return 0;
            }
            for (int y = 0; y < k; y++) {
                int a2 = next[s][a][y], b2 = to[p][b][y], c2 = to[q][c][y];
                String u = n[3] + text(word[p][b][y]), v = n[4] + text(word[q][c][y]);
                while (!u.isEmpty() && !v.isEmpty() && u.charAt(0) == v.charAt(0)) {
                    u = u.substring(1);
                    v = v.substring(1);
                }
                if (!live.contains(a2 * 36 + b2 * 6 + c2)) u = v = "";
                else if (!u.isEmpty() && !v.isEmpty()) return 0;
                open.add(new String[] {"" + a2, "" + b2, "" + c2, u, v});
            }
        }
        return 1;
    }

    private static String text(int w) {
        StringBuilder b = new StringBuilder();
        for (int c : lettersOf(w)) b.append(c);
        return b.toString();
    }

    private Set<Integer> live(int s, int p, int q) {
        Set<Integer> live = new HashSet<>();
        for (int round = 0; round < 217; round++) {
            for (int n = 0; n < 216; n++) {
                int a = n / 36, b = n / 6 % 6, c = n % 6;
                boolean is = holds[s][a] && end[p][b] != STOPS && end[q][c] != STOPS;
                for (int y = 0; y < k; y++) is |= live.contains(next[s][a][y] * 36 + to[p][b][y] * 6 + to[q][c][y]);
                if (is) live.add(n);
            }
        }
        return live;
    }

    private void follows(String at, int f, int s) {
        String what = at + "follows " + f + " " + s;
        int is = x().follows(f, s);
        note("follows " + is);
        int length = x().unless(f, s, -1);
        due(what + " and unless", length == NONE ? 1 : 0, is);
        for (int[] row : rows) {
            if (!isSo(f, row) || isSo(s, row)) continue;
            due(what + " length", length, row.length);
            for (int i = 0; i < row.length; i++) due(what + " letter " + i, x().unless(f, s, i), row[i]);
            due(what + " behind", x().unless(f, s, row.length), NONE);
            return;
        }
        if (length != NONE && length <= longest) due(what + " length", length, NONE);
        for (int i = 0; i < length; i++) if (x().unless(f, s, i) < 0) due(what + " letter", 0, 1);
    }

    private void rowsAndPlaces(String at, int s, int length) {
        String what = at + "rows " + s + " " + length;
        long place = 0;
        for (int[] row : rows) {
            if (row.length != length || !isSo(s, row)) continue;
            if (chance.nextInt(8) == 0) {
                room(2 + length);
                due(what + " lay", x().lay(s, length, place), length == 0 ? NONE : row[0]);
                for (int i = 0; i < length; i++) due(what + " lay at " + i, x().at(i), row[i]);
                due(what + " rank", x().rank(s), place);
            }
            place++;
        }
        due(what, x().rows(s, length), place);
        due(what + " beyond", x().lay(s, length, place), -2);
    }

    private void runs(String at, int p) {
        int[] row = rows.get(chance.nextInt(rows.size()));
        String what = at + "run " + p + " " + Arrays.toString(row);
        room(2 + 2 * row.length + RUNS * (3 + 24));
        tell(row);
        int[] w = row;
        int rounds = NONE;
        for (int i = 0; i < 60; i++) {
            int[] then = written(p, w);
            if (then == null || then.length > 24) break;
            if (Arrays.equals(w, then)) {
                rounds = i;
                break;
            }
            w = then;
        }
        due(what + " rounds", x().rounds(p), rounds);
        for (int i = 0; i < row.length; i++) due(what + " not changed", x().at(i), row[i]);
        for (int time = 0; time < RUNS; time++) {
            int[] then = written(p, row);
            int want = then == null ? -3 : then.length > 24 ? -4 : then.length;
            due(what + " time " + time, x().run(p), want);
            if (want >= 0) row = then;
            due(what + " length", x().count(2), row.length);
            for (int i = 0; i < row.length; i++) due(what + " letter " + i, x().at(i), row[i]);
            int s = chance.nextInt(8);
            due(what + " is", x().is(s), isSo(s, row) ? 1 : 0);
        }
    }

    private void tell(int[] row) {
        x().clear();
        for (int c : row) x().letter(c);
    }

    private void bothAndNot(String at) {
        int s = chance.nextInt(8), o = chance.nextInt(8), t = chance.nextInt(8);
        String what = at + "both " + s + " " + o + " " + t;
        // The model is changed ahead of the calls, so one object has to do for all of this.
        room(2 + 4 * 6 * (k + 1));
        List<Integer> pairs = new ArrayList<>(List.of(0));
        for (int i = 0; i < pairs.size(); i++) {
            for (int c = 0; c < k; c++) {
                int pair = 6 * next[o][pairs.get(i) / 6][c] + next[t][pairs.get(i) % 6][c];
                if (!pairs.contains(pair)) pairs.add(pair);
            }
        }
        if (pairs.size() <= 6) {
            int[][] n = new int[6][4];
            boolean[] h = {true, true, true, true, true, true};
            for (int i = 0; i < pairs.size(); i++) {
                h[i] = holds[o][pairs.get(i) / 6] && holds[t][pairs.get(i) % 6];
                for (int c = 0; c < k; c++) {
                    n[i][c] = pairs.indexOf(6 * next[o][pairs.get(i) / 6][c] + next[t][pairs.get(i) % 6][c]);
                }
            }
            next[s] = n;
            holds[s] = h;
        }
        note(pairs.size() <= 6 ? "both fits" : "both full");
        due(what, x().both(s, o, t), pairs.size() <= 6 ? pairs.size() : -4);
        dueSentence(what, s);
        int m = chance.nextInt(8);
        int held = 0;
        int[][] n = new int[6][];
        boolean[] h = new boolean[6];
        for (int p = 0; p < 6; p++) {
            n[p] = next[s][p].clone();
            h[p] = !holds[s][p];
            if (h[p]) held++;
        }
        next[m] = n;
        holds[m] = h;
        due(at + "not " + m + " " + s, x().not(m, s), held);
        for (int i : new int[] {m, s, chance.nextInt(8)}) dueSentence(at + "not " + m + " " + s, i);
    }

    private void dueSentence(String what, int s) {
        for (int p = 0; p < 6; p++) {
            for (int c = 0; c < k; c++) due(what + " about " + s + p + c, x().about(s, p, c), next[s][p][c]);
            due(what + " holds " + s + p, x().about(s, p, k), holds[s][p] ? 1 : 0);
        }
    }
}
