import java.io.IOException;
import java.lang.reflect.Method;
import java.nio.file.Files;
import java.nio.file.Path;
import java.util.Arrays;
import java.util.Map;
import java.util.TreeMap;
import java.util.regex.Matcher;
import java.util.regex.Pattern;

/**
 * Every word of the document's terms and promises is one that some test says it stands for, and every test quotes
 * the document as it is. .ci/run tells where the document is.
 */
public final class SentenceTests {
    private static final Class<?>[] TESTS = {FairBoundsTests.class, WayBoundsTests.class, LostBoundsTests.class,
        SeekBoundsTests.class, SheetBoundsTests.class, RefusalTests.class};

    private SentenceTests() {
    }

    public static void main(String[] args) throws IOException {
        Path path = Path.of(args.length > 1 ? args[1] : "../shared/DOC.md");
        Map<Integer, String> parts = partsOf(Files.readString(path));
        Check.due("promises and the terms", parts.size(), 39);
        Map<Integer, boolean[]> quoted = new TreeMap<>();
        for (Map.Entry<Integer, String> part : parts.entrySet()) {
            quoted.put(part.getKey(), new boolean[part.getValue().length()]);
        }
        for (Class<?> tests : TESTS) {
            for (Method method : tests.getDeclaredMethods()) {
                Says says = method.getAnnotation(Says.class);
                if (says != null) {
                    markAll(method.getName(), says, parts, quoted);
                }
            }
        }
        for (Map.Entry<Integer, String> part : parts.entrySet()) {
            dueQuoted(part.getKey(), part.getValue(), quoted.get(part.getKey()));
        }
        Check.end();
    }

    /** Part 0: the fair, the calls and the terms. Parts 1 on: what each promise says behind its call. */
    private static Map<Integer, String> partsOf(String document) {
        Map<Integer, String> parts = new TreeMap<>();
        String what = sectionOf(document, "What it is"), terms = sectionOf(document, "Terms");
        int fair = what.indexOf("1 THE FAIR");
        Check.that("the fair is told", fair >= 0);
        parts.put(0, plain(what.substring(Math.max(fair, 0)) + "\n" + terms.replaceAll("(?m)^Ahead of the calls.*$", "")));
        Matcher promises = Pattern.compile("(?m)^## Promise (\\d+): .*$").matcher(document);
        while (promises.find()) {
            String section = sectionOf(document, promises.group().substring(3));
            parts.put(Integer.parseInt(promises.group(1)), plain(section.replaceFirst("`[^`]*`:", "")));
        }
        return parts;
    }

    private static String sectionOf(String document, String title) {
        int head = document.indexOf("## " + title + "\n");
        Check.that("there is " + title, head >= 0);
        int start = Math.max(head, 0) + title.length() + 4;
        int end = document.indexOf("\n## ", start);
        return document.substring(start, end < 0 ? document.length() : end);
    }

    private static String plain(String text) {
        return text.replaceAll("(?m)^```.*$", "").replaceAll("======== \\d", "").replaceAll("\\s+", " ").trim();
    }

    private static void markAll(String test, Says says, Map<Integer, String> parts, Map<Integer, boolean[]> quoted) {
        for (String words : says.words()) {
            String part = parts.getOrDefault(says.promise(), "");
            int at = part.indexOf(words);
            boolean once = at >= 0 && part.indexOf(words, at + 1) < 0;
            Check.that(test + " quotes promise " + says.promise() + " once: " + words, once);
            if (at >= 0) {
                Arrays.fill(quoted.get(says.promise()), at, at + words.length(), true);
            }
        }
    }

    private static void dueQuoted(int promise, String part, boolean[] quoted) {
        StringBuilder left = new StringBuilder();
        for (int i = 0; i < part.length(); i++) {
            left.append(quoted[i] ? '\n' : part.charAt(i));
        }
        for (String words : left.toString().split("\n+")) {
            Check.that("promise " + promise + " has a test of: " + words, !words.matches(".*\\w.*"));
        }
    }
}
