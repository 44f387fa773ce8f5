import java.io.IOException;
import java.nio.file.Files;
import java.nio.file.Path;
import java.util.Map;
import java.util.TreeMap;
import java.util.Set;
import java.util.TreeSet;
import java.util.regex.Matcher;
import java.util.regex.Pattern;

/** What of LANGUAGE.md can be seen by looking at the source's words; it is run from the root. */
public final class LanguageTest {
    private static final Path SOURCE = Path.of("src/main/java/ShrinkDesk.java");
    private static final Pattern MEMBER = Pattern.compile(
        "(?m)^    (public|private) (static )?(?:(?:int|boolean|void) )?(\\w+)\\(([^)]*)\\) \\{\\n");
    private static final Pattern FIELD = Pattern.compile("(?m)^    private (?!static)[^(\\n]*;$");
    private static final Pattern MADE = Pattern.compile("private final \\w+\\[\\] \\w+ = new \\w+\\[[A-Z]+\\];");

    private static final Map<String, String> bodies = new TreeMap<>();
    private static final Set<String> publicNames = new TreeSet<>();

    private LanguageTest() { }

    public static void main(String[] args) throws IOException {
        // Comments aside; the patterns below take the layout that the source has.
        String source = Files.readString(SOURCE)
            .replaceAll("(?s)/\\*.*?\\*/", "").replaceAll("//.*", "");
        dueWords(source);
        dueMembers(source);
        for (String name : bodies.keySet()) {
            Checks.due("rules 8, 10: how deep the calls of " + name + " go, at most six",
                depth(name, 1) <= 6, true);
            dueArguments(name);
        }
        Checks.finish("LanguageTest");
    }

    private static void dueWords(String source) {
        String[] words = {"import", "package", "throw", "throws", "try", "catch", "finally",
            "synchronized", "assert", "instanceof", "null", "String", "Math", "Integer", "System",
            "Arrays", "Object", "float", "double", "protected", "enum", "interface", "record",
            "Random", "Thread", "->", "::"};
        for (String word : words) {
            String pattern = Character.isLetter(word.charAt(0)) ? "\\b" + word + "\\b" : word;
            Checks.due("rules 1 to 11: " + word, Pattern.compile(pattern).matcher(source).find(), false);
        }
        // Only for loops are looked at below, so there are to be no others.
        Checks.due("rule 8: other loops", Pattern.compile("\\b(while|do)\\b").matcher(source).find(), false);
        for (String row : source.split("\n")) {
            if (row.matches(".*\\bnew\\b.*")) {
                Checks.due("rule 4: " + row.trim(), MADE.matcher(row).find(), true);
            }
            if (row.matches(".*\\bfor \\(.*")) {
                Checks.due("rule 8: " + row.trim(), row.matches(".*; \\w+ (<|>=) .*(\\+\\+|--)\\) \\{"), true);
            }
        }
    }

    private static void dueMembers(String source) {
        Matcher m = MEMBER.matcher(source);
        while (m.find()) {
            String name = m.group(3);
            String body = source.substring(m.end(), source.indexOf("\n    }\n", m.end()) + 1);
            Checks.due("rule 1: " + name + " is there once", bodies.put(name, body) == null, true);
            Checks.due("rule 10: lines of " + name, body.split("\n").length <= 60, true);
            Checks.due("rule 10: parameters of " + name, m.group(4).split(",").length <= 7, true);
            if (m.group(1).equals("public")) {
                publicNames.add(name);
            }
        }
        Checks.due("public members", publicNames.size(), 16);
        int fields = 0;
        Matcher f = FIELD.matcher(source);
        while (f.find()) {
            fields++;
        }
        Checks.due("rule 10: some forty fields, here " + fields, fields > 20 && fields <= 40, true);
    }

    /** Recursion would go beyond any depth. */
    private static int depth(String name, int above) {
        int deepest = above;
        for (String other : bodies.keySet()) {
            if (above < 10 && Pattern.compile("\\b" + other + "\\(").matcher(bodies.get(name)).find()) {
                deepest = Math.max(deepest, depth(other, above + 1));
            }
        }
        return deepest;
    }

    private static void dueArguments(String name) {
        String call = "\\b(" + String.join("|", bodies.keySet()) + ")\\(";
        Checks.due("rule 10: a call in the arguments of another one in " + name,
            Pattern.compile(call + "[^()]*(\\([^()]*\\)[^()]*)*" + call).matcher(bodies.get(name)).find(), false);
    }
}
