import java.io.IOException;
import java.lang.management.ManagementFactory;
import java.lang.reflect.Constructor;
import java.lang.reflect.Field;
import java.lang.reflect.InvocationTargetException;
import java.lang.reflect.Method;
import java.lang.reflect.Modifier;
import java.nio.file.Files;
import java.nio.file.Path;
import java.util.ArrayList;
import java.util.Arrays;
import java.util.List;
import java.util.Random;
import java.util.TreeSet;
import java.util.regex.Matcher;
import java.util.regex.Pattern;

/** The face, the rules that can be seen in the text, what a run makes, and calls with any arguments. */
public final class RuleTests extends Checks {
    private static final Path SOURCE = Path.of("src/main/java/AnyLength.java");
    private static final String[] FACE = {
        "int letters(int)", "int point(int,int,int,int)", "int holds(int,int,boolean)", "int make(int,int,int)",
        "int not(int,int)", "int both(int,int,int)", "int about(int,int,int)", "int spot(int,int,int,int,int)",
        "int end(int,int,int)", "int of(int,int,int,int)", "int claim(int,int,int,int)",
        "int picture(int,int,int,int,int)", "int met(int,int,int,int)", "int place(int,int,int,int,int)",
        "int sheet(int,boolean)", "int write(int,int,int,int)", "int check(int,int,int,int)",
        "int stays(int,int,int)", "int witness(int,int,int)", "int agree(int,int,int)", "int follows(int,int)",
        "int unless(int,int,int)", "long rows(int,int)", "int lay(int,int,long)", "long rank(int)",
        "int letter(int)", "int clear()", "int at(int)", "int is(int)", "int run(int)", "int rounds(int)",
        "int count(int)"};

    private static void check(String what, boolean is) {
        if (!is) tellWrong("not so: " + what);
    }

    public static void main(String[] args) throws Exception {
        face();
        text();
        whatARunMakes();
        for (long seed = 1; seed <= 200; seed++) anyCalls(seed);
        finish("rules");
    }

    // ---- the face

    private static String told(Method m) {
        StringBuilder b = new StringBuilder(m.getReturnType() + " " + m.getName() + "(");
        for (int i = 0; i < m.getParameterCount(); i++) b.append(i > 0 ? "," : "").append(m.getParameterTypes()[i]);
        return b.append(")").toString();
    }

    private static void face() {
        check("public final", Modifier.isPublic(AnyLength.class.getModifiers())
            && Modifier.isFinal(AnyLength.class.getModifiers()));
        TreeSet<String> seen = new TreeSet<>();
        TreeSet<String> names = new TreeSet<>();
        for (Method m : AnyLength.class.getDeclaredMethods()) {
            if (Modifier.isPrivate(m.getModifiers()) || m.isSynthetic()) continue;
            check("public " + m, Modifier.isPublic(m.getModifiers()) && !Modifier.isStatic(m.getModifiers()));
            seen.add(told(m));
            names.add(m.getName());
        }
        check("the methods of the face, and no other: " + seen, seen.equals(new TreeSet<>(Arrays.asList(FACE))));
        Constructor<?>[] made = AnyLength.class.getDeclaredConstructors();
        check("one public constructor", made.length == 1 && Modifier.isPublic(made[0].getModifiers()));
        TreeSet<String> constants = new TreeSet<>();
        for (Field f : AnyLength.class.getDeclaredFields()) {
            if (!Modifier.isPrivate(f.getModifiers())) constants.add(f.getName());
            if (Modifier.isStatic(f.getModifiers())) check("final " + f, Modifier.isFinal(f.getModifiers()));
        }
        check("constants", constants.equals(new TreeSet<>(List.of("UNKNOWN", "BAD", "STATE", "FULL", "NONE"))));
        check("at most some twelve classes", AnyLength.class.getDeclaredClasses().length <= 11);
        inside(AnyLength.class, names);
        for (Class<?> c : AnyLength.class.getDeclaredClasses()) inside(c, names);
    }

    private static void inside(Class<?> c, TreeSet<String> names) {
        if (c != AnyLength.class) check("static " + c, Modifier.isStatic(c.getModifiers()));
        check("no class inside " + c, c == AnyLength.class || c.getDeclaredClasses().length == 0);
        int fields = 0;
        for (Field f : c.getDeclaredFields()) if (!Modifier.isStatic(f.getModifiers())) fields++;
        check("at most some twenty fields in " + c, fields <= 20);
        for (Method m : c.getDeclaredMethods()) {
            check("at most seven parameters: " + m, m.getParameterCount() <= 7);
            if (Modifier.isPublic(m.getModifiers())) continue;
            check("a name of the face: " + m, !names.contains(m.getName()));
        }
    }

    // ---- the text

    private static void text() throws IOException {
        String all = Files.readString(SOURCE);
        for (int i = 0; i < all.length(); i++) check("a sign of 1 to 127 at " + i, all.charAt(i) < 128);
        String code = all.replaceAll("(?s)/\\*.*?\\*/", " ").replaceAll("//[^\n]*", " ");
        for (String word : List.of("throw", "throws", "try", "catch", "finally", "synchronized", "assert", "package",
                "protected", "native", "volatile", "transient", "double", "float", "hashCode", "toString",
                "Exception", "Object", "System", "Random", "Thread")) {
            check("no " + word, !Pattern.compile("\\b" + word + "\\b").matcher(code).find());
        }
        check("no lambda", !code.contains("->"));
        check("no method reference", !code.contains("::"));
        check("no static block", !Pattern.compile("static\\s*\\{").matcher(code).find());
        check("no text", code.indexOf('"') < 0);
        Matcher imports = Pattern.compile("import\\s+([^;]+);").matcher(code);
        while (imports.find()) check("import " + imports.group(1), imports.group(1).equals("java.util.Arrays"));
        Matcher exact = Pattern.compile("\\b(Math|Arrays)\\.(\\w+)").matcher(code);
        while (exact.find()) check(exact.group(), List.of("abs", "min", "max", "fill").contains(exact.group(2)));
        shortMethods(Files.readAllLines(SOURCE));
    }

    private static void shortMethods(List<String> lines) {
        int from = -1;
        String name = "";
        for (int i = 0; i < lines.size(); i++) {
            String line = lines.get(i);
            if (line.matches(" {4}( {4})?\\S.*\\) \\{") && !line.trim().startsWith("for") && !line.contains(" class ")) {
                from = i;
                name = line.trim();
            }
            if (from >= 0 && line.matches(" {4}( {4})?\\}")) check("short: " + name, i - from <= 60);
        }
    }

    // ---- what a run makes

    private static long bytesMade() {
        return ((com.sun.management.ThreadMXBean) ManagementFactory.getThreadMXBean())
            .getThreadAllocatedBytes(Thread.currentThread().getId());
    }

    private static void allCalls(AnyLength x, int turn) {
        x.letters(3);
        for (int i = 0; i < 6; i++) {
            x.spot(0, i, turn % 3, (i + 1) % 6, 6);
            x.point(0, i, turn % 3, (i + turn) % 6);
        }
        x.holds(0, 1, false);
        x.make(1, 7, 0);
        x.not(2, 1);
        x.both(3, 0, 0);
        x.about(0, 0, 0);
        x.end(0, 3, 1);
        x.of(0, 0, 0, 0);
        x.claim(0, 0, 0, 1);
        x.picture(0, 0, 0, 1, 2);
        x.met(0, 0, 0, 1);
        x.place(0, 0, 0, 1, 5);
        x.sheet(turn, true);
        x.write(0, 0, 0, 1);
        x.check(0, 0, 0, 1);
        x.stays(0, 0, 1);
        x.witness(0, 0, 1);
        x.agree(0, 0, 0);
        x.follows(0, 1);
        x.unless(0, 1, 0);
        x.rows(1, 20);
        x.lay(1, 20, 1000);
        x.rank(1);
        x.letter(1);
        x.at(3);
        x.is(1);
        x.run(1);
        x.rounds(1);
        x.clear();
        x.count(1);
    }

    /** Ten turns of some 45 calls each for one object: no more than is promised. */
    private static final int TURNS = 10, TURNED = 20;

    private static void turn(AnyLength[] all, int from) {
        for (int i = 0; i < TURNED * TURNS; i++) allCalls(all[from + i / TURNS], i);
    }

    private static void whatARunMakes() {
        long before = bytesMade();
        AnyLength[] all = new AnyLength[2 * TURNED];
        for (int i = 0; i < all.length; i++) all[i] = new AnyLength();
        long each = (bytesMade() - before) / all.length;
        check("an object is small: " + each, each < 64000);
        turn(all, 0);
        before = bytesMade();
        turn(all, TURNED);
        long made = bytesMade() - before;
        check("calls make nothing: " + made, made < 4000);
    }

    // ---- any calls

    /** A call that was made, so that it can be made again on a new object. */
    private record Call(Method method, Object[] given) {
        long on(AnyLength x) throws Exception {
            return ((Number) method.invoke(x, given)).longValue();
        }

        String told() {
            return method.getName() + Arrays.toString(given);
        }
    }

    /** What is looked at takes at most 267 calls (sentences and the row, of four letters). */
    private static final int MOST_CALLS = 512, LOOKED_AFTER = MOST_CALLS - 268;
    private static final int PARTS = 8, PLACES = 1296, PLACES_A_PART = PLACES / (PARTS - 2);

    /** One part of what can be seen: sentences and the row (0), programs (1), some of the sheet (2 and on). */
    private static List<Integer> seen(AnyLength x, int part) {
        List<Integer> all = new ArrayList<>();
        int k = x.count(0);
        all.add(k);
        if (part == 0) {
            for (int i = 1; i < 3; i++) all.add(x.count(i));
            for (int i = 0; i < 24; i++) all.add(x.at(i));
            for (int s = 0; s < 8; s++) for (int p = 0; p < 6; p++) for (int c = 0; c <= k; c++) all.add(x.about(s, p, c));
        } else if (part == 1) {
            for (int s = 0; s < 4; s++) {
                for (int p = 0; p < 6; p++) {
                    for (int c = 0; c <= k; c++) for (int w = 0; w < 2; w++) all.add(x.of(s, p, c, w));
                }
            }
        } else {
            for (int i = 0; i < PLACES_A_PART; i++) all.add(x.sheet((part - 2) * PLACES_A_PART + i, true));
        }
        return all;
    }

    private static AnyLength behind(List<Call> calls) throws Exception {
        AnyLength x = new AnyLength();
        for (Call call : calls) call.on(x);
        return x;
    }

    private static final List<String> CHANGE = List.of("letters", "point", "holds", "make", "not", "both", "spot",
        "end", "sheet", "write", "lay", "letter", "clear", "run");
    private static final int[] EDGES = {-1, -2, 0, 1, 2, 3, 4, 5, 6, 7, 8, 20, 21, 24, 1295, 1296,
        Integer.MIN_VALUE, Integer.MAX_VALUE};

    private static int number(Random chance) {
        int kind = chance.nextInt(20);
        if (kind == 0) return EDGES[chance.nextInt(EDGES.length)];
        if (kind == 1) return chance.nextInt();
        return kind < 14 ? chance.nextInt(3) : chance.nextInt(7);
    }

    private static void anyCalls(long seed) throws Exception {
        Random chance = new Random(seed);
        List<Method> face = new ArrayList<>();
        for (Method m : AnyLength.class.getDeclaredMethods()) if (Modifier.isPublic(m.getModifiers())) face.add(m);
        face.sort((a, b) -> a.getName().compareTo(b.getName()));
        AnyLength x = new AnyLength();
        List<Call> made = new ArrayList<>();
        while (made.size() < MOST_CALLS) {
            Method m = face.get(chance.nextInt(face.size()));
            if (m.getName().equals("letters") && chance.nextInt(8) > 0) continue;
            if (m.getName().equals("clear") && chance.nextInt(4) > 0) continue;
            Object[] given = new Object[m.getParameterCount()];
            for (int i = 0; i < given.length; i++) {
                Class<?> type = m.getParameterTypes()[i];
                given[i] = type == boolean.class ? (Object) chance.nextBoolean()
                    : type == long.class ? (Object) (long) number(chance) : (Object) number(chance);
            }
            Call call = new Call(m, given);
            long answer = answer(x, call);
            boolean look = made.size() < LOOKED_AFTER && chance.nextInt(10) == 0;
            if (look && keeps(m.getName(), answer)) changesNothing(made, call, chance.nextInt(PARTS));
            made.add(call);
        }
    }

    private static long answer(AnyLength x, Call call) throws Exception {
        try {
            long answer = call.on(x);
            check(call.told() + " answered " + answer, answer >= -4 || answer == -9);
            return answer;
        } catch (InvocationTargetException e) {
            check(call.told() + " threw " + e.getCause(), false);
            return 0;
        }
    }

    private static boolean keeps(String name, long answer) {
        if (!CHANGE.contains(name)) return true;
        if (name.equals("lay") && answer == -9) return false;
        return answer < -1 || answer == -1 && !name.equals("end");
    }

    private static void changesNothing(List<Call> made, Call call, int part) throws Exception {
        List<Integer> before = seen(behind(made), part);
        AnyLength x = behind(made);
        call.on(x);
        check(call.told() + " changed something", before.equals(seen(x, part)));
    }
}
