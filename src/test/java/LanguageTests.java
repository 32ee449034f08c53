import java.io.IOException;
import java.nio.file.Files;
import java.nio.file.Path;
import java.util.HashMap;
import java.util.HashSet;
import java.util.Map;
import java.util.Set;
import java.util.TreeMap;
import java.util.TreeSet;
import java.util.regex.Matcher;
import java.util.regex.Pattern;

/** Rules of ../shared/LANGUAGE.md that can be seen in the source's words; .ci/run tells where the source is. */
public final class LanguageTests {
    private static final Pattern METHOD = Pattern.compile(
            "(?m)^( +)((?:public |private |static |final )*)(?:(\\w+(?:\\[\\])*) )?(\\w+)\\(([^()]*)\\) \\{$");
    private static final Pattern CALL = Pattern.compile("(?<!new )\\b(\\w+)\\(");

    private LanguageTests() {
    }

    public static void main(String[] args) throws IOException {
        Path path = Path.of(args.length > 0 ? args[0] : "src/main/java/HandInHand.java");
        String source = Files.readString(path);
        Check.that("signs 1 to 127", source.chars().allMatch(c -> c >= 1 && c <= 127));
        String code = source.replaceAll("(?s)/\\*.*?\\*/", "").replaceAll("//[^\n]*", "")
                .replaceAll("'(\\\\.|[^'\\\\])'", "0");
        words(code);
        statics(code);
        loops(code);
        methods(code);
        Check.end();
    }

    private static void words(String code) {
        String[] forbidden = {"throw", "throws", "try", "catch", "finally", "synchronized", "assert", "protected",
            "native", "volatile", "transient", "equals", "hashCode", "toString", "Object", "package", "instanceof",
            "float", "double", "Random", "System\\.(?!arraycopy)", "\\w*Exact", "->", "::", "\"", "@"};
        for (String word : forbidden) {
            boolean sign = !Character.isLetter(word.charAt(0)) && word.charAt(0) != '\\';
            String pattern = sign ? word : "(?<!\\w)" + word + (word.startsWith("System") ? "" : "(?!\\w)");
            Check.that("no " + word, !Pattern.compile(pattern).matcher(code).find());
        }
        Matcher imports = Pattern.compile("(?m)^import (.*);$").matcher(code);
        while (imports.find()) {
            Check.that("import " + imports.group(1), imports.group(1).equals("java.util.Arrays"));
        }
        Matcher library = Pattern.compile("\\b(Arrays|Math|Integer|Long|System)\\.(\\w+)").matcher(code);
        Set<String> listed = Set.of("Arrays.fill", "Math.max", "Math.min", "Integer.bitCount", "System.arraycopy");
        while (library.find()) {
            Check.that("the library has " + library.group(), listed.contains(library.group()));
        }
        Matcher classes = Pattern.compile("\\b(class|record|enum|interface) \\w+").matcher(code);
        Check.that("twelve classes at most", classes.results().count() <= 12);
        Matcher inside = Pattern.compile("(?m)^ +.*\\bclass \\w+ \\{$").matcher(code);
        while (inside.find()) {
            Check.that(inside.group(), inside.group().startsWith("    private static final class "));
        }
    }

    private static void statics(String code) {
        Check.that("no static block", !Pattern.compile("static\\s*\\{").matcher(code).find());
        Matcher fields = Pattern.compile("(?m)^ +.*\\bstatic\\b[^(]*;$").matcher(code.replaceAll("=[^;]*;", ";"));
        while (fields.find()) {
            Check.that("static and final: " + fields.group(), fields.group().contains(" final "));
        }
    }

    private static void loops(String code) {
        Check.that("no loop without a bound",
                !Pattern.compile("while \\(true\\)|for \\([^;]*;\\s*;|\\bdo \\{").matcher(code).find());
        Matcher whiles = Pattern.compile("while \\(([^\n]*)\\) \\{").matcher(code);
        while (whiles.find()) {
            Check.that("a counter against a bound: " + whiles.group(1), whiles.group(1).contains(" < "));
        }
    }

    private static void methods(String code) {
        Set<String> shown = new TreeSet<>(), hidden = new TreeSet<>();
        Map<String, Set<String>> calls = new TreeMap<>();
        Matcher heads = METHOD.matcher(code);
        while (heads.find()) {
            String name = heads.group(4), modifiers = heads.group(2);
            if (Set.of("if", "for", "while", "switch").contains(name)) {
                continue;
            }
            int end = code.indexOf("\n" + heads.group(1) + "}\n", heads.end());
            String body = code.substring(heads.end(), end);
            Check.that(name + " is short", body.split("\n").length <= 60);
            Check.that(name + " takes seven at most", heads.group(5).split(",").length <= 7);
            (modifiers.contains("public") ? shown : hidden).add(name);
            Set<String> called = calls.computeIfAbsent(name, k -> new HashSet<>());
            CALL.matcher(body).results().forEach(r -> called.add(r.group(1)));
        }
        Check.that("the face was found", shown.size() == 38);
        for (String name : hidden) {
            Check.that("no hidden method bears the name " + name, !shown.contains(name));
        }
        Map<String, Integer> depths = new HashMap<>();
        for (String name : calls.keySet()) {
            int depth = depthOf(name, calls, depths, 0);
            Check.that(name + " goes " + depth + " deep", depth <= 8);
        }
    }

    private static int depthOf(String name, Map<String, Set<String>> calls, Map<String, Integer> depths, int open) {
        if (!calls.containsKey(name) || open > 40) {
            return calls.containsKey(name) ? 99 : 0;
        }
        Integer known = depths.get(name);
        if (known != null) {
            return known;
        }
        int most = 0;
        for (String called : calls.get(name)) {
            most = Math.max(most, depthOf(called, calls, depths, open + 1));
        }
        depths.put(name, most + 1);
        return most + 1;
    }
}
