import java.io.IOException;
import java.nio.file.Files;
import java.nio.file.Path;
import java.util.ArrayList;
import java.util.LinkedHashMap;
import java.util.List;
import java.util.Map;
import java.util.Set;
import java.util.regex.Matcher;
import java.util.regex.Pattern;

/** The rules of LANGUAGE.md that can be looked up in the source text. */
public final class SourceTest {
    private static final Path SOURCE = Path.of("src/main/java/SegmentMachine.java");
    private static final Pattern METHOD = Pattern.compile(
        "(?ms)^    (?:public|private)(?: static)? (?:\\w+ )?(\\w+)\\(([^)]*)\\) \\{$(.*?)^    }$");
    private static final Pattern WORD_BEFORE = Pattern.compile("(\\w+)\\s*$");
    private static final Set<String> NO_CALLS = Set.of("if", "for", "while", "switch", "return");
    private static final String[] NOT_USED = {
        "import", "package", "throw", "throws", "try", "catch", "finally", "synchronized",
        "assert", "instanceof", "null", "float", "double", "String", "Object", "System", "Math",
        "Integer", "Long", "Arrays", "interface", "enum", "record", "protected", "native"};
    private static final Check CHECK = new Check();

    public static void main(String[] args) throws IOException {
        String code = Files.readString(SOURCE).replaceAll("(?s)/\\*.*?\\*/|//[^\\n]*", "");
        words(code);
        arrays(code);
        noCallInsideAnother(code);
        methods(code);
        CHECK.end();
    }

    private static int count(String pattern, String code) {
        return (int) Pattern.compile(pattern).matcher(code).results().count();
    }

    private static void words(String code) {
        for (String word : NOT_USED) {
            CHECK.due("uses of " + word, count("\\b" + word + "\\b", code), 0);
        }
        CHECK.due("classes", count("\\bclass\\b", code), 1);
        CHECK.due("lambdas and references", count("->|::", code), 0);
        CHECK.due("texts", count("[\"']", code), 0);
        CHECK.due("arrays of arrays", count("\\]\\s*\\[", code), 0);
        CHECK.due("few fields", count("(?m)^    private (?!static)[^(]*;$", code) <= 40, true);
    }

    private static void arrays(String code) {
        int made = count("\\bnew\\b", code);
        int atStart = count("(?m)^    private final \\w+\\[] \\w+ = new \\w+\\[[A-Z_0-9]+];$", code);
        CHECK.due("what is made elsewhere than in a field's initialiser", made - atStart, 0);
        CHECK.due("static fields that are no int or long",
            count("(?m)^    \\w+ static final (?!int |long )", code), 0);
        CHECK.due("static fields that are not final",
            count("(?m)^    \\w+ static (?!final )[^(]*;$", code), 0);
    }

    private static void noCallInsideAnother(String code) {
        List<Boolean> open = new ArrayList<>();
        for (int i = 0; i < code.length(); i++) {
            if (code.charAt(i) == '(') {
                Matcher before = WORD_BEFORE.matcher(code.substring(Math.max(0, i - 40), i));
                boolean call = before.find() && !NO_CALLS.contains(before.group(1));
                String near = code.substring(Math.max(0, i - 60), i).replaceAll("\\s+", " ");
                CHECK.due("a call inside another: " + near, call && open.contains(true), false);
                open.add(call);
            } else if (code.charAt(i) == ')') {
                open.remove(open.size() - 1);
            }
        }
    }

    private static void methods(String code) {
        Map<String, String> bodies = new LinkedHashMap<>();
        Matcher method = METHOD.matcher(code);
        while (method.find()) {
            String name = method.group(1);
            CHECK.due("a second " + name, bodies.containsKey(name), false);
            bodies.put(name, method.group(3));
            CHECK.due(name + " is short", method.group(3).lines().count() <= 60, true);
            CHECK.due(name + " has few parameters", method.group(2).split(",").length <= 7, true);
        }
        CHECK.due("methods are found", bodies.size() >= 15, true);
        for (String name : bodies.keySet()) {
            CHECK.due(name + " goes at most six deep", depth(name, bodies, 1) <= 6, true);
        }
    }

    /** How deep the calls of a method go; a method that comes back to itself goes too deep. */
    private static int depth(String name, Map<String, String> bodies, int above) {
        int deepest = 1;
        for (String other : bodies.keySet()) {
            if (above <= 6 && count("\\b" + other + "\\(", bodies.get(name)) > 0) {
                deepest = Math.max(deepest, 1 + depth(other, bodies, above + 1));
            }
        }
        return deepest;
    }
}
