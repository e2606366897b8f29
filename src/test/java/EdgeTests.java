import java.io.IOException;
import java.lang.reflect.InvocationTargetException;
import java.lang.reflect.Method;
import java.nio.file.Files;
import java.nio.file.Path;
import java.util.ArrayList;
import java.util.Arrays;
import java.util.Comparator;
import java.util.List;
import java.util.regex.Matcher;
import java.util.regex.Pattern;

/**
 * Boundary cases, each by a test of its own that says for which words of the document it stands.
 * All words of the terms and of the promises have to be said by some test.
 */
public final class EdgeTests extends Checks {
    private static final Path DOCUMENT = Path.of("../shared/DOC.md");
    private static final int PROMISES = 33;
    private static final List<Class<?>> EDGES = List.of(SentenceEdges.class, ProgramEdges.class, ClaimEdges.class,
        StayEdges.class, FollowEdges.class, RowEdges.class, RefusalEdges.class);

    public static void main(String[] args) throws IOException {
        List<Method> tests = tests();
        int failed = 0;
        for (Method test : tests) {
            int before = wrong();
            run(test);
            if (wrong() > before) failed++;
        }
        begin("document");
        everyWordIsSaid(tests);
        finish("edges: " + tests.size() + " tests, " + failed + " failed");
    }

    private static List<Method> tests() {
        List<Method> all = new ArrayList<>();
        for (Class<?> edges : EDGES) {
            Method[] methods = edges.getDeclaredMethods();
            Arrays.sort(methods, Comparator.comparing(Method::getName));
            for (Method m : methods) if (m.isAnnotationPresent(Says.class)) all.add(m);
        }
        return all;
    }

    private static void run(Method test) {
        Says says = test.getAnnotation(Says.class);
        begin((says.promise() == 0 ? "terms" : "promise " + says.promise()) + ", " + test.getName());
        try {
            test.invoke(null);
        } catch (InvocationTargetException e) {
            tellWrong("threw " + e.getCause());
        } catch (IllegalAccessException e) {
            tellWrong("is no test: " + e);
        }
    }

    // ---- the words of the document

    private static void everyWordIsSaid(List<Method> tests) throws IOException {
        if (!Files.exists(DOCUMENT)) {
            System.out.println("no " + DOCUMENT + ": the words of the tests are not held against it");
            return;
        }
        String document = Files.readString(DOCUMENT);
        for (int promise = 0; promise <= PROMISES; promise++) {
            String words = plain(promise == 0 ? terms(document) : promise(document, promise));
            if (words.isBlank()) tellWrong("there is no promise " + promise);
            dueSaid(promise, words, tests);
        }
    }

    private static String terms(String document) {
        String part = between(document, "## Terms", "## Promise 1:");
        return part.replaceAll("(?m)^Ahead of the calls.*$", " ").replaceAll("======== \\d", " ").replaceAll("```(text)?", " ");
    }

    private static String promise(String document, int promise) {
        String part = between(document, "## Promise " + promise + ":", "\n## ");
        return part.replaceFirst("(?s)^.*?`[^`]*`:", " ");
    }

    private static String between(String all, String from, String to) {
        Matcher m = Pattern.compile(Pattern.quote(from) + "(.*?)" + Pattern.quote(to), Pattern.DOTALL).matcher(all);
        return m.find() ? m.group(1) : "";
    }

    private static String plain(String text) {
        return text.replaceAll("\\s+", " ").trim();
    }

    private static void dueSaid(int promise, String words, List<Method> tests) {
        char[] left = words.toCharArray();
        for (Method test : tests) {
            Says says = test.getAnnotation(Says.class);
            if (says.promise() != promise) continue;
            for (String said : says.value()) takeAway(promise, words, left, said, test);
        }
        String rest = plain(new String(left));
        if (rest.matches(".*[A-Za-z0-9].*")) tellWrong("promise " + promise + ": no test says: " + rest);
    }

    private static void takeAway(int promise, String words, char[] left, String said, Method test) {
        int at = words.indexOf(said);
        if (at < 0) tellWrong("promise " + promise + " does not say '" + said + "' (" + test.getName() + ")");
        for (int i = 0; at >= 0 && i < said.length(); i++) left[at + i] = ' ';
    }
}
