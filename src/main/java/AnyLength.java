import java.util.Arrays;

/**
 * Rows of any length, sentences about them and programs that rewrite them.
 * Every table is made once, in the constructor: all calls of a run share one room.
 */
public final class AnyLength {
    public static final int UNKNOWN = -1, BAD = -2, STATE = -3, FULL = -4, NONE = -9;

    private static final int SENTENCES = 8, PROGRAMS = 4;
    private static final int POINTS = 6, SPOTS = 6;
    private static final int FEWEST_LETTERS = 2, MOST_LETTERS = 4;
    private static final int KINDS = 8;
    /** A word of one letter x is 1 + x, one of two letters x, y is 5 + 4 x + y. */
    private static final int NO_LETTER = 0, ONE_LETTER = 1, TWO_LETTERS = 5, WORDS = 21, LONGEST_WORD = 2;
    /** The end of a spot at which no row is written. */
    private static final int STOPS = -1;
    private static final int TAILS = SPOTS * POINTS;
    private static final int PLACES = POINTS * SPOTS * TAILS;
    private static final int LONGEST_ROW = 24, LONGEST_COUNTED = 20, MOST_RUNS = 60;
    /** All that a program can write of the longest row. */
    private static final int WRITTEN_ROOM = LONGEST_WORD * (LONGEST_ROW + 1);
    private static final int UNMET = -2, START = -1;

    private int letterCount;
    private int sheetCount;
    private final int[] onSheet;
    private final Sentence[] sentences;
    private final Program[] programs;
    private final Sentence allRows;
    private final Program unchanged;
    private final Sentence drawn;
    private final Row row;
    private final Row reading;
    private final Row written;
    private final Pairs pairs;
    private final Claim claims;
    private final Balance balance;
    private final Agreement agreement;
    private final Tally tally;

    public AnyLength() {
        letterCount = FEWEST_LETTERS;
        sheetCount = 0;
        onSheet = new int[PLACES];
        sentences = new Sentence[SENTENCES];
        for (int i = 0; i < SENTENCES; i++) sentences[i] = new Sentence();
        programs = new Program[PROGRAMS];
        for (int i = 0; i < PROGRAMS; i++) programs[i] = new Program();
        allRows = new Sentence();
        unchanged = new Program();
        drawn = new Sentence();
        row = new Row(WRITTEN_ROOM);
        reading = new Row(WRITTEN_ROOM);
        written = new Row(WRITTEN_ROOM);
        pairs = new Pairs();
        claims = new Claim(allRows, unchanged);
        balance = new Balance();
        agreement = new Agreement(allRows, unchanged);
        tally = new Tally();
    }

    // ---- letters, sentences

    public int letters(int k) {
        if (k < FEWEST_LETTERS || k > MOST_LETTERS) return BAD;
        int was = letterCount;
        letterCount = k;
        for (int i = 0; i < SENTENCES; i++) sentences[i].startAnew();
        for (int i = 0; i < PROGRAMS; i++) programs[i].startAnew();
        Arrays.fill(onSheet, 0);
        sheetCount = 0;
        row.empty();
        return was;
    }

    public int point(int sentence, int point, int letter, int next) {
        Sentence s = sentenceOf(sentence);
        if (s == null || !within(point, POINTS) || !within(letter, letterCount)) return UNKNOWN;
        if (!within(next, POINTS)) return UNKNOWN;
        int was = s.nextOf(point, letter);
        s.lead(point, letter, next);
        return was;
    }

    public int holds(int sentence, int point, boolean is) {
        Sentence s = sentenceOf(sentence);
        if (s == null || !within(point, POINTS)) return UNKNOWN;
        int was = oneIf(s.holdsAt(point));
        s.hold(point, is);
        return was;
    }

    public int make(int sentence, int kind, int a) {
        Sentence s = sentenceOf(sentence);
        if (s == null) return UNKNOWN;
        boolean asksLetter = kind == 2 || kind == 4 || kind == 5 || kind == 6;
        if (asksLetter && !within(a, letterCount)) return UNKNOWN;
        if (!within(kind, KINDS)) return BAD;
        if (kind == 3 && (a < 1 || a > POINTS)) return BAD;
        drawn.draw(kind, a, letterCount);
        // Paired with all rows, the points keep their meaning and get the numbers that are due.
        return pairs.into(s, drawn, allRows, letterCount);
    }

    public int not(int sentence, int other) {
        Sentence s = sentenceOf(sentence);
        Sentence o = sentenceOf(other);
        if (s == null || o == null) return UNKNOWN;
        s.copy(o);
        return s.turnRound();
    }

    public int both(int sentence, int other, int third) {
        Sentence s = sentenceOf(sentence);
        Sentence o = sentenceOf(other);
        Sentence t = sentenceOf(third);
        if (s == null || o == null || t == null) return UNKNOWN;
        return pairs.into(s, o, t, letterCount);
    }

    public int about(int sentence, int point, int letter) {
        Sentence s = sentenceOf(sentence);
        if (s == null || !within(point, POINTS)) return UNKNOWN;
        if (letter == letterCount) return oneIf(s.holdsAt(point));
        return within(letter, letterCount) ? s.nextOf(point, letter) : UNKNOWN;
    }

    // ---- programs

    public int spot(int program, int spot, int letter, int next, int word) {
        Program p = programOf(program);
        if (p == null || !within(spot, SPOTS) || !within(letter, letterCount)) return UNKNOWN;
        if (!within(next, SPOTS)) return UNKNOWN;
        if (!isWord(word, letterCount)) return BAD;
        int was = p.wordOf(spot, letter);
        p.lead(spot, letter, next, word);
        return was;
    }

    public int end(int program, int spot, int word) {
        Program p = programOf(program);
        if (p == null || !within(spot, SPOTS)) return UNKNOWN;
        if (word != STOPS && !isWord(word, letterCount)) return BAD;
        int was = p.endOf(spot);
        p.finish(spot, word);
        return was;
    }

    public int of(int program, int spot, int letter, int what) {
        Program p = programOf(program);
        if (p == null || !within(spot, SPOTS) || !within(letter, letterCount + 1)) return UNKNOWN;
        boolean atEnd = letter == letterCount;
        if (what == 0 && !atEnd) return p.nextOf(spot, letter);
        if (what == 1) return atEnd ? p.endOf(spot) : p.wordOf(spot, letter);
        return BAD;
    }

    // ---- claims

    public int claim(int ahead, int program, int second, int behind) {
        Claim c = claimOf(ahead, program, second, behind);
        if (c == null) return UNKNOWN;
        c.explore();
        return oneIf(c.firstBad() == NONE);
    }

    public int picture(int ahead, int program, int second, int behind, int i) {
        Claim c = claimOf(ahead, program, second, behind);
        if (c == null) return UNKNOWN;
        if (i < -1) return BAD;
        c.explore();
        return c.pictureAt(i);
    }

    public int met(int ahead, int program, int second, int behind) {
        Claim c = claimOf(ahead, program, second, behind);
        if (c == null) return UNKNOWN;
        c.explore();
        return c.metPlaces();
    }

    public int place(int ahead, int program, int second, int behind, int i) {
        Claim c = claimOf(ahead, program, second, behind);
        if (c == null) return UNKNOWN;
        c.explore();
        return c.metByNumber(i);
    }

    public int sheet(int place, boolean is) {
        if (!within(place, PLACES)) return BAD;
        int was = onSheet[place];
        onSheet[place] = oneIf(is);
        sheetCount += onSheet[place] - was;
        return was;
    }

    public int write(int ahead, int program, int second, int behind) {
        Claim c = claimOf(ahead, program, second, behind);
        if (c == null) return UNKNOWN;
        c.explore();
        for (int place = 0; place < PLACES; place++) onSheet[place] = oneIf(c.isMet(place));
        sheetCount = c.metPlaces();
        return sheetCount;
    }

    public int check(int ahead, int program, int second, int behind) {
        Claim c = claimOf(ahead, program, second, behind);
        if (c == null) return UNKNOWN;
        return c.firstFault(onSheet);
    }

    // ---- letters that stay, programs that agree

    public int stays(int sentence, int program, int letter) {
        Sentence s = sentenceOf(sentence);
        Program p = programOf(program);
        if (s == null || p == null || !within(letter, letterCount)) return UNKNOWN;
        return oneIf(balance.shortestUneven(s, p, letter, letterCount) == NONE);
    }

    public int witness(int sentence, int program, int letter) {
        Sentence s = sentenceOf(sentence);
        Program p = programOf(program);
        if (s == null || p == null || !within(letter, letterCount)) return UNKNOWN;
        return balance.shortestUneven(s, p, letter, letterCount);
    }

    public int agree(int sentence, int program, int other) {
        Sentence s = sentenceOf(sentence);
        Program p = programOf(program);
        Program o = programOf(other);
        if (s == null || p == null || o == null) return UNKNOWN;
        return oneIf(agreement.isSo(s, p, o, letterCount));
    }

    // ---- sentences that follow

    public int follows(int from, int sentence) {
        Claim c = followingOf(from, sentence);
        if (c == null) return UNKNOWN;
        c.explore();
        return oneIf(c.firstBad() == NONE);
    }

    public int unless(int from, int sentence, int i) {
        Claim c = followingOf(from, sentence);
        if (c == null) return UNKNOWN;
        if (i < -1) return BAD;
        c.explore();
        return c.pictureAt(i);
    }

    public long rows(int sentence, int length) {
        Sentence s = sentenceOf(sentence);
        if (s == null) return UNKNOWN;
        if (!within(length, LONGEST_COUNTED + 1)) return BAD;
        tally.fill(s, length, letterCount);
        return tally.ways(length, 0);
    }

    public int lay(int sentence, int length, long place) {
        Sentence s = sentenceOf(sentence);
        if (s == null) return UNKNOWN;
        if (!within(length, LONGEST_COUNTED + 1)) return BAD;
        tally.fill(s, length, letterCount);
        if (place < 0 || place >= tally.ways(length, 0)) return BAD;
        tally.layOut(s, length, place, row);
        return row.letterAt(0);
    }

    public long rank(int sentence) {
        Sentence s = sentenceOf(sentence);
        if (s == null) return UNKNOWN;
        if (!s.holdsAt(row.walkedBy(s))) return STATE;
        if (row.size() > LONGEST_COUNTED) return FULL;
        tally.fill(s, row.size(), letterCount);
        return tally.placeOf(s, row);
    }

    // ---- the row

    public int letter(int letter) {
        if (!within(letter, letterCount)) return UNKNOWN;
        if (row.size() >= LONGEST_ROW) return FULL;
        row.add(letter);
        return row.size();
    }

    public int clear() {
        int was = row.size();
        row.empty();
        return was;
    }

    public int at(int i) {
        return row.letterAt(i);
    }

    public int is(int sentence) {
        Sentence s = sentenceOf(sentence);
        if (s == null) return UNKNOWN;
        return oneIf(s.holdsAt(row.walkedBy(s)));
    }

    public int run(int program) {
        Program p = programOf(program);
        if (p == null) return UNKNOWN;
        if (!p.rewrite(row, written)) return STATE;
        if (written.size() > LONGEST_ROW) return FULL;
        row.copy(written);
        return row.size();
    }

    public int rounds(int program) {
        Program p = programOf(program);
        if (p == null) return UNKNOWN;
        reading.copy(row);
        for (int before = 0; before < MOST_RUNS; before++) {
            if (!p.rewrite(reading, written)) return NONE;
            if (written.size() > LONGEST_ROW) return NONE;
            if (reading.isLike(written)) return before;
            reading.copy(written);
        }
        return NONE;
    }

    public int count(int what) {
        if (what == 0) return letterCount;
        if (what == 1) return sheetCount;
        if (what == 2) return row.size();
        return BAD;
    }

    // ---- what the calls share

    private static boolean within(int i, int bound) {
        return i >= 0 && i < bound;
    }

    private static int oneIf(boolean is) {
        return is ? 1 : 0;
    }

    private Sentence sentenceOf(int i) {
        return within(i, SENTENCES) ? sentences[i] : null;
    }

    private Program programOf(int i) {
        return within(i, PROGRAMS) ? programs[i] : null;
    }

    /** The claim that the four numbers tell, or null if one of them is unknown. */
    private Claim claimOf(int ahead, int program, int second, int behind) {
        Sentence a = sentenceOf(ahead);
        Program p = programOf(program);
        Program q = programOf(second);
        Sentence b = sentenceOf(behind);
        if (a == null || p == null || b == null) return null;
        if (q == null && second != -1) return null;
        claims.state(a, p, q, b, letterCount);
        return claims;
    }

    /** That a sentence follows is the claim of a program that changes nothing. */
    private Claim followingOf(int from, int sentence) {
        Sentence f = sentenceOf(from);
        Sentence s = sentenceOf(sentence);
        if (f == null || s == null) return null;
        claims.state(f, unchanged, null, s, letterCount);
        return claims;
    }

    private static boolean isWord(int word, int letterCount) {
        if (!within(word, WORDS)) return false;
        for (int i = 0; i < wordLength(word); i++) {
            if (wordLetter(word, i) >= letterCount) return false;
        }
        return true;
    }

    private static int wordLength(int word) {
        if (word < ONE_LETTER) return 0;
        return word < TWO_LETTERS ? 1 : 2;
    }

    private static int wordLetter(int word, int i) {
        if (word < TWO_LETTERS) return word - ONE_LETTER;
        return i == 0 ? (word - TWO_LETTERS) / MOST_LETTERS : (word - TWO_LETTERS) % MOST_LETTERS;
    }

    /** How often a letter is in a word. */
    private static int timesIn(int word, int letter) {
        int times = 0;
        for (int i = 0; i < wordLength(word); i++) {
            if (wordLetter(word, i) == letter) times++;
        }
        return times;
    }

    // ---- sentences and programs

    private static final class Sentence {
        private final int[] next;
        private final int[] holding;

        Sentence() {
            next = new int[POINTS * MOST_LETTERS];
            holding = new int[POINTS];
            startAnew();
        }

        void startAnew() {
            Arrays.fill(next, 0);
            Arrays.fill(holding, 1);
        }

        int nextOf(int point, int letter) {
            if (!within(point, POINTS) || !within(letter, MOST_LETTERS)) return 0;
            return next[point * MOST_LETTERS + letter];
        }

        boolean holdsAt(int point) {
            return within(point, POINTS) && holding[point] == 1;
        }

        void lead(int point, int letter, int to) {
            if (!within(point, POINTS) || !within(letter, MOST_LETTERS)) return;
            next[point * MOST_LETTERS + letter] = to;
        }

        void hold(int point, boolean is) {
            if (within(point, POINTS)) holding[point] = oneIf(is);
        }

        void copy(Sentence other) {
            for (int i = 0; i < POINTS * MOST_LETTERS; i++) next[i] = other.next[i];
            for (int i = 0; i < POINTS; i++) holding[i] = other.holding[i];
        }

        /** Each point holds just if it did not; tells how many hold then. */
        int turnRound() {
            int held = 0;
            for (int i = 0; i < POINTS; i++) {
                holding[i] = 1 - holding[i];
                held += holding[i];
            }
            return held;
        }

        int afterWord(int point, int word) {
            int at = point;
            for (int i = 0; i < wordLength(word); i++) at = nextOf(at, wordLetter(word, i));
            return at;
        }

        /** The fewest points of a kind; those beyond its last one are never met. */
        void draw(int kind, int a, int letterCount) {
            for (int point = 0; point < POINTS; point++) {
                hold(point, kindHolds(kind, point, letterCount));
                for (int letter = 0; letter < letterCount; letter++) {
                    lead(point, letter, kindNext(kind, a, point, letter, letterCount));
                }
            }
        }

        private static boolean kindHolds(int kind, int point, int letterCount) {
            switch (kind) {
                case 1: return point < letterCount;
                case 2: case 5: case 6: return point == 1;
                case 3: case 4: return point == 0;
                case 7: return point <= letterCount;
                default: return true;
            }
        }

        private static int kindNext(int kind, int a, int point, int letter, int letterCount) {
            switch (kind) {
                // The point is the letter ahead; no letter ahead is like letter 0.
                case 1: return letter < point ? letterCount : letter;
                case 2: case 4: return point == 1 || letter == a ? 1 : 0;
                case 3: return point + 1 < a ? point + 1 : 0;
                case 5: return point != 0 ? point : letter == a ? 1 : 2;
                case 6: return letter == a ? 1 : 0;
                // The point is one more than the letter ahead.
                case 7: return point == letter + 1 || point > letterCount ? letterCount + 1 : letter + 1;
                default: return 0;
            }
        }
    }

    private static final class Program {
        private final int[] next;
        private final int[] word;
        private final int[] ending;

        Program() {
            next = new int[SPOTS * MOST_LETTERS];
            word = new int[SPOTS * MOST_LETTERS];
            ending = new int[SPOTS];
            startAnew();
        }

        void startAnew() {
            for (int spot = 0; spot < SPOTS; spot++) {
                ending[spot] = NO_LETTER;
                for (int letter = 0; letter < MOST_LETTERS; letter++) lead(spot, letter, 0, ONE_LETTER + letter);
            }
        }

        int nextOf(int spot, int letter) {
            if (!within(spot, SPOTS) || !within(letter, MOST_LETTERS)) return 0;
            return next[spot * MOST_LETTERS + letter];
        }

        int wordOf(int spot, int letter) {
            if (!within(spot, SPOTS) || !within(letter, MOST_LETTERS)) return NO_LETTER;
            return word[spot * MOST_LETTERS + letter];
        }

        int endOf(int spot) {
            return within(spot, SPOTS) ? ending[spot] : STOPS;
        }

        void lead(int spot, int letter, int to, int written) {
            if (!within(spot, SPOTS) || !within(letter, MOST_LETTERS)) return;
            next[spot * MOST_LETTERS + letter] = to;
            word[spot * MOST_LETTERS + letter] = written;
        }

        void finish(int spot, int written) {
            if (within(spot, SPOTS)) ending[spot] = written;
        }

        /** Puts into a row what is written for another one; false: no row is written. */
        boolean rewrite(Row from, Row into) {
            into.empty();
            int at = 0;
            for (int i = 0; i < from.size(); i++) {
                int letter = from.letterAt(i);
                into.addWord(wordOf(at, letter));
                at = nextOf(at, letter);
            }
            if (endOf(at) == STOPS) return false;
            into.addWord(endOf(at));
            return true;
        }
    }

    /** Letters one behind the other, as many as there is room for. */
    private static final class Row {
        private final int[] letters;
        private int length;

        Row(int room) {
            letters = new int[Math.max(room, 0)];
            length = 0;
        }

        int size() {
            return length;
        }

        void empty() {
            length = 0;
        }

        int letterAt(int i) {
            return within(i, length) && i < letters.length ? letters[i] : NONE;
        }

        void add(int letter) {
            if (!within(length, letters.length)) return;
            letters[length] = letter;
            length++;
        }

        void addWord(int word) {
            for (int i = 0; i < wordLength(word); i++) add(wordLetter(word, i));
        }

        void copy(Row other) {
            empty();
            for (int i = 0; i < other.length; i++) add(other.letterAt(i));
        }

        boolean isLike(Row other) {
            return length == other.length && isLikeSoFar(other);
        }

        /** Whether the two are alike as far as both go. */
        boolean isLikeSoFar(Row other) {
            for (int i = 0; i < Math.min(length, other.length); i++) {
                if (letterAt(i) != other.letterAt(i)) return false;
            }
            return true;
        }

        /** The point of a sentence at which the row ends. */
        int walkedBy(Sentence s) {
            int point = 0;
            for (int i = 0; i < length; i++) point = s.nextOf(point, letterAt(i));
            return point;
        }
    }

    /** Pairs of points of two sentences, numbered as they are met first. */
    private static final class Pairs {
        private static final int PAIRS = POINTS * POINTS;
        private final int[] number;
        private final int[] order;
        private final Sentence result;
        private int met;

        Pairs() {
            number = new int[PAIRS];
            order = new int[PAIRS];
            result = new Sentence();
            met = 0;
        }

        /** Makes a sentence of two, of which it may itself be one; tells how many points, or FULL. */
        int into(Sentence target, Sentence one, Sentence other, int letterCount) {
            explore(one, other, letterCount);
            if (met > POINTS) return FULL;
            result.startAnew();
            for (int i = 0; i < met; i++) {
                int pair = order[i];
                result.hold(i, one.holdsAt(pair / POINTS) && other.holdsAt(pair % POINTS));
                for (int letter = 0; letter < letterCount; letter++) {
                    result.lead(i, letter, numberOf(after(pair, letter, one, other)));
                }
            }
            target.copy(result);
            return met;
        }

        private void explore(Sentence one, Sentence other, int letterCount) {
            Arrays.fill(number, UNMET);
            met = 0;
            meet(0);
            for (int i = 0; i < met && i < PAIRS; i++) {
                for (int letter = 0; letter < letterCount; letter++) meet(after(order[i], letter, one, other));
            }
        }

        private void meet(int pair) {
            if (!within(pair, PAIRS) || number[pair] != UNMET || !within(met, PAIRS)) return;
            number[pair] = met;
            order[met] = pair;
            met++;
        }

        private int numberOf(int pair) {
            return within(pair, PAIRS) ? number[pair] : 0;
        }

        private static int after(int pair, int letter, Sentence one, Sentence other) {
            return one.nextOf(pair / POINTS, letter) * POINTS + other.nextOf(pair % POINTS, letter);
        }
    }

    // ---- claims

    /** The claim that was stated last, and the places that are met in it. */
    private static final class Claim {
        private static final int FIRST_SPOT = TAILS, FIRST_POINT = SPOTS * TAILS;
        /** How a place was met first: the place ahead of it and the letter; START; UNMET. */
        private final int[] way;
        private final int[] order;
        private int metCount;
        private Sentence ahead;
        private Program first;
        /** Null: the claim has one program. */
        private Program second;
        private Sentence behind;
        private int letterCount;

        Claim(Sentence sentence, Program program) {
            way = new int[PLACES];
            order = new int[PLACES];
            metCount = 0;
            ahead = sentence;
            first = program;
            second = null;
            behind = sentence;
            letterCount = FEWEST_LETTERS;
        }

        void state(Sentence from, Program one, Program next, Sentence to, int letters) {
            ahead = from;
            first = one;
            second = next;
            behind = to;
            letterCount = letters;
        }

        /** Meets places by the length of the row, then by letters: the first bad one ends the picture. */
        void explore() {
            Arrays.fill(way, UNMET);
            metCount = 0;
            meet(0, START);
            for (int i = 0; i < metCount && i < PLACES; i++) {
                int place = order[i];
                for (int letter = 0; letter < letterCount; letter++) {
                    meet(after(place, letter), place * MOST_LETTERS + letter);
                }
            }
        }

        private void meet(int place, int how) {
            if (!within(place, PLACES) || way[place] != UNMET || !within(metCount, PLACES)) return;
            way[place] = how;
            order[metCount] = place;
            metCount++;
        }

        int metPlaces() {
            return metCount;
        }

        boolean isMet(int place) {
            return within(place, PLACES) && way[place] != UNMET;
        }

        int metByNumber(int i) {
            if (!within(i, metCount)) return NONE;
            int left = i;
            for (int place = 0; place < PLACES; place++) {
                if (way[place] == UNMET) continue;
                if (left == 0) return place;
                left--;
            }
            return NONE;
        }

        int firstBad() {
            for (int i = 0; i < metCount && i < PLACES; i++) {
                if (isBad(order[i])) return order[i];
            }
            return NONE;
        }

        /** The length of the picture (i = -1) or its i-th letter. */
        int pictureAt(int i) {
            int bad = firstBad();
            if (bad == NONE) return NONE;
            int length = wayLength(bad);
            if (i == -1) return length;
            if (!within(i, length)) return NONE;
            int place = bad;
            for (int back = length - 1; back > i; back--) place = wayTo(place) / MOST_LETTERS;
            return wayTo(place) % MOST_LETTERS;
        }

        private int wayTo(int place) {
            return within(place, PLACES) ? way[place] : UNMET;
        }

        private int wayLength(int place) {
            int at = place;
            for (int length = 0; length < PLACES; length++) {
                int how = wayTo(at);
                if (how < 0) return length;
                at = how / MOST_LETTERS;
            }
            return PLACES;
        }

        /** What fails first of a sheet: 1 the start, 2 a letter that leads out of it, 3 a bad place; 0 nothing. */
        int firstFault(int[] onSheet) {
            if (onSheet == null || onSheet.length != PLACES || onSheet[0] == 0) return 1;
            for (int place = 0; place < PLACES; place++) {
                if (onSheet[place] == 1 && leadsOut(place, onSheet)) return 2;
            }
            for (int place = 0; place < PLACES; place++) {
                if (onSheet[place] == 1 && isBad(place)) return 3;
            }
            return 0;
        }

        private boolean leadsOut(int place, int[] onSheet) {
            for (int letter = 0; letter < letterCount; letter++) {
                int to = after(place, letter);
                if (!within(to, onSheet.length) || onSheet[to] == 0) return true;
            }
            return false;
        }

        private int after(int place, int letter) {
            int point = place / FIRST_POINT;
            int spot = place / FIRST_SPOT % SPOTS;
            int tail = tailAfter(place % TAILS, first.wordOf(spot, letter));
            return ahead.nextOf(point, letter) * FIRST_POINT + first.nextOf(spot, letter) * FIRST_SPOT + tail;
        }

        /** The second spot and the last point together, behind a word that the first program writes. */
        private int tailAfter(int tail, int word) {
            int spot = tail / POINTS;
            int point = tail % POINTS;
            if (second == null) return spot * POINTS + behind.afterWord(point, word);
            for (int i = 0; i < wordLength(word); i++) {
                int letter = wordLetter(word, i);
                point = behind.afterWord(point, second.wordOf(spot, letter));
                spot = second.nextOf(spot, letter);
            }
            return spot * POINTS + point;
        }

        private boolean isBad(int place) {
            if (!ahead.holdsAt(place / FIRST_POINT)) return false;
            int word = first.endOf(place / FIRST_SPOT % SPOTS);
            if (word == STOPS) return true;
            int tail = tailAfter(place % TAILS, word);
            if (second == null) return !behind.holdsAt(tail % POINTS);
            int last = second.endOf(tail / POINTS);
            if (last == STOPS) return true;
            return !behind.holdsAt(behind.afterWord(tail % POINTS, last));
        }
    }

    // ---- letters that stay, programs that agree

    /**
     * The shortest row in which a letter is not as often as in what is written.
     * Of the ways to a point and a spot the first two that differ in how many letters are over are enough:
     * whatever comes behind, at least one of these two ends uneven.
     */
    private static final class Balance {
        private static final int STATES = POINTS * SPOTS, KEPT = 2, NODES = KEPT * STATES;
        private final int[] keptOf;
        private final int[] firstOver;
        private final int[] stateOf;
        private final int[] overOf;
        private final int[] lengthOf;
        private int nodes;

        Balance() {
            keptOf = new int[STATES];
            firstOver = new int[STATES];
            stateOf = new int[NODES];
            overOf = new int[NODES];
            lengthOf = new int[NODES];
            nodes = 0;
        }

        int shortestUneven(Sentence s, Program p, int letter, int letterCount) {
            Arrays.fill(keptOf, 0);
            nodes = 0;
            keep(0, 0, 0);
            for (int i = 0; i < nodes && i < NODES; i++) {
                int point = stateOf[i] / SPOTS;
                int spot = stateOf[i] % SPOTS;
                if (endsUneven(s, point, p.endOf(spot), letter, overOf[i])) return lengthOf[i];
                for (int x = 0; x < letterCount; x++) {
                    int over = overOf[i] + timesIn(p.wordOf(spot, x), letter) - oneIf(x == letter);
                    keep(s.nextOf(point, x) * SPOTS + p.nextOf(spot, x), over, lengthOf[i] + 1);
                }
            }
            return NONE;
        }

        private static boolean endsUneven(Sentence s, int point, int end, int letter, int over) {
            return s.holdsAt(point) && end != STOPS && over + timesIn(end, letter) != 0;
        }

        private void keep(int state, int over, int length) {
            if (!within(state, STATES) || !within(nodes, NODES) || keptOf[state] >= KEPT) return;
            if (keptOf[state] == 0) {
                firstOver[state] = over;
            } else if (firstOver[state] == over) {
                return;
            }
            keptOf[state]++;
            stateOf[nodes] = state;
            overOf[nodes] = over;
            lengthOf[nodes] = length;
            nodes++;
        }
    }

    /**
     * Whether two programs write the same for all rows of a sentence.
     * Where both can still come to write a row, one of them is ahead by some letters, its lead.
     * They agree only if each such state has one lead, whichever way leads there: what comes behind
     * has to make up for just that lead.
     */
    private static final class Agreement {
        private static final int STATES = POINTS * SPOTS * SPOTS;
        private static final int MET = 1, LIVE = 2;
        /**
         * No longer lead is made up for. Where none stops alone, a point and a spot of one program tell whether
         * both write: fewer words than there are such pairs, and an end, lead from a live state to a row.
         */
        private static final int LONGEST_LEAD = LONGEST_WORD * POINTS * SPOTS;
        private static final int PER_INT = 16;
        private static final int LEAD_INTS = (LONGEST_LEAD + PER_INT - 1) / PER_INT;
        private static final int NO_LEAD_YET = 1 << 20;
        private final int[] mark;
        private final int[] order;
        private int met;
        /** How many letters one is ahead of the other (below 0: the other is), and two bits for each of them. */
        private final int[] leadOf;
        private final int[] leadBits;
        private final Row left;
        private final Row right;
        private Sentence sentence;
        private Program one;
        private Program other;
        private int letterCount;

        Agreement(Sentence s, Program p) {
            mark = new int[STATES];
            order = new int[STATES];
            met = 0;
            leadOf = new int[STATES];
            leadBits = new int[STATES * LEAD_INTS];
            left = new Row(LONGEST_LEAD + LONGEST_WORD);
            right = new Row(LONGEST_LEAD + LONGEST_WORD);
            sentence = s;
            one = p;
            other = p;
            letterCount = FEWEST_LETTERS;
        }

        boolean isSo(Sentence s, Program p, Program q, int letters) {
            sentence = s;
            one = p;
            other = q;
            letterCount = letters;
            explore();
            if (oneStopsAlone()) return false;
            markLive();
            return mark[0] != LIVE || leadsAreEven();
        }

        private void explore() {
            Arrays.fill(mark, UNMET);
            met = 0;
            meet(0);
            for (int i = 0; i < met && i < STATES; i++) {
                for (int letter = 0; letter < letterCount; letter++) meet(after(order[i], letter));
            }
        }

        private void meet(int state) {
            if (!within(state, STATES) || mark[state] != UNMET || !within(met, STATES)) return;
            mark[state] = MET;
            order[met] = state;
            met++;
        }

        private static int pointOf(int state) {
            return state / (SPOTS * SPOTS);
        }

        private static int oneSpot(int state) {
            return state / SPOTS % SPOTS;
        }

        private static int otherSpot(int state) {
            return state % SPOTS;
        }

        private int after(int state, int letter) {
            int spots = one.nextOf(oneSpot(state), letter) * SPOTS + other.nextOf(otherSpot(state), letter);
            return sentence.nextOf(pointOf(state), letter) * SPOTS * SPOTS + spots;
        }

        private boolean oneStopsAlone() {
            for (int i = 0; i < met && i < STATES; i++) {
                int state = order[i];
                boolean oneStops = one.endOf(oneSpot(state)) == STOPS;
                boolean otherStops = other.endOf(otherSpot(state)) == STOPS;
                if (sentence.holdsAt(pointOf(state)) && oneStops != otherStops) return true;
            }
            return false;
        }

        private boolean bothWrite(int state) {
            if (!sentence.holdsAt(pointOf(state))) return false;
            return one.endOf(oneSpot(state)) != STOPS && other.endOf(otherSpot(state)) != STOPS;
        }

        /** Live are the states from which some letters, or none, lead to where both write a row. */
        private void markLive() {
            boolean changed = true;
            for (int sweep = 0; changed && sweep <= STATES; sweep++) {
                changed = false;
                for (int i = Math.min(met, STATES) - 1; i >= 0; i--) {
                    if (!isLive(order[i]) && (bothWrite(order[i]) || leadsToLive(order[i]))) {
                        setLive(order[i]);
                        changed = true;
                    }
                }
            }
        }

        private boolean isLive(int state) {
            return within(state, STATES) && mark[state] == LIVE;
        }

        private void setLive(int state) {
            if (within(state, STATES)) mark[state] = LIVE;
        }

        private boolean leadsToLive(int state) {
            for (int letter = 0; letter < letterCount; letter++) {
                if (isLive(after(state, letter))) return true;
            }
            return false;
        }

        /** In the order of meeting: each live state but the first has its lead from one met ahead of it. */
        private boolean leadsAreEven() {
            Arrays.fill(leadOf, NO_LEAD_YET);
            leadOf[0] = 0;
            for (int i = 0; i < met && i < STATES; i++) {
                int state = order[i];
                if (!isLive(state)) continue;
                if (bothWrite(state) && !endsEven(state)) return false;
                for (int letter = 0; letter < letterCount; letter++) {
                    if (!stepsEven(state, letter)) return false;
                }
            }
            return true;
        }

        private boolean endsEven(int state) {
            fetch(state);
            left.addWord(one.endOf(oneSpot(state)));
            right.addWord(other.endOf(otherSpot(state)));
            return left.isLike(right);
        }

        private boolean stepsEven(int state, int letter) {
            int to = after(state, letter);
            if (!isLive(to)) return true;
            fetch(state);
            left.addWord(one.wordOf(oneSpot(state), letter));
            right.addWord(other.wordOf(otherSpot(state), letter));
            if (!left.isLikeSoFar(right)) return false;
            int lead = left.size() - right.size();
            if (Math.abs(lead) > LONGEST_LEAD) return false;
            return leadOf[to] == NO_LEAD_YET ? keepLead(to, lead) : isLead(to, lead);
        }

        /** Lays out the letters by which one of the two is ahead. */
        private void fetch(int state) {
            left.empty();
            right.empty();
            if (!within(state, STATES) || leadOf[state] == NO_LEAD_YET) return;
            Row longer = leadOf[state] > 0 ? left : right;
            for (int i = 0; i < Math.abs(leadOf[state]); i++) longer.add(leadLetter(state, i));
        }

        private boolean keepLead(int state, int lead) {
            if (!within(state, STATES)) return false;
            leadOf[state] = lead;
            Row longer = lead > 0 ? left : right;
            int from = longer.size() - Math.abs(lead);
            for (int i = 0; i < Math.abs(lead); i++) putLeadLetter(state, i, longer.letterAt(from + i));
            return true;
        }

        private boolean isLead(int state, int lead) {
            if (!within(state, STATES) || leadOf[state] != lead) return false;
            Row longer = lead > 0 ? left : right;
            int from = longer.size() - Math.abs(lead);
            for (int i = 0; i < Math.abs(lead); i++) {
                if (leadLetter(state, i) != longer.letterAt(from + i)) return false;
            }
            return true;
        }

        private int leadLetter(int state, int i) {
            if (!within(state, STATES) || !within(i, LONGEST_LEAD)) return 0;
            return (leadBits[state * LEAD_INTS + i / PER_INT] >> (i % PER_INT * 2)) & 3;
        }

        private void putLeadLetter(int state, int i, int letter) {
            if (!within(state, STATES) || !within(i, LONGEST_LEAD)) return;
            int cell = state * LEAD_INTS + i / PER_INT;
            int shift = i % PER_INT * 2;
            leadBits[cell] = (leadBits[cell] & ~(3 << shift)) | ((letter & 3) << shift);
        }
    }

    // ---- how many rows

    /** How many rows of each length lead from each point to one that holds. */
    private static final class Tally {
        private static final int CELLS = (LONGEST_COUNTED + 1) * POINTS;
        private final long[] table;
        private int letterCount;

        Tally() {
            table = new long[CELLS];
            letterCount = FEWEST_LETTERS;
        }

        void fill(Sentence s, int longest, int letters) {
            letterCount = letters;
            for (int point = 0; point < POINTS; point++) put(0, point, oneIf(s.holdsAt(point)));
            for (int length = 1; length <= longest; length++) {
                for (int point = 0; point < POINTS; point++) put(length, point, sum(s, length, point));
            }
        }

        private long sum(Sentence s, int length, int point) {
            long all = 0;
            for (int x = 0; x < letterCount; x++) all += ways(length - 1, s.nextOf(point, x));
            return all;
        }

        private void put(int length, int point, long ways) {
            if (within(length, LONGEST_COUNTED + 1) && within(point, POINTS)) table[length * POINTS + point] = ways;
        }

        long ways(int length, int point) {
            if (!within(length, LONGEST_COUNTED + 1) || !within(point, POINTS)) return 0;
            return table[length * POINTS + point];
        }

        void layOut(Sentence s, int length, long place, Row into) {
            into.empty();
            long left = place;
            int point = 0;
            for (int rest = length - 1; rest >= 0; rest--) {
                int x = 0;
                while (x < letterCount - 1 && left >= ways(rest, s.nextOf(point, x))) {
                    left -= ways(rest, s.nextOf(point, x));
                    x++;
                }
                into.add(x);
                point = s.nextOf(point, x);
            }
        }

        long placeOf(Sentence s, Row row) {
            long place = 0;
            int point = 0;
            for (int i = 0; i < row.size(); i++) {
                int rest = row.size() - 1 - i;
                for (int x = 0; x < row.letterAt(i); x++) place += ways(rest, s.nextOf(point, x));
                point = s.nextOf(point, row.letterAt(i));
            }
            return place;
        }
    }
}
