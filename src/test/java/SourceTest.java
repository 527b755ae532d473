import java.io.IOException;
import java.nio.file.Files;
import java.nio.file.Path;
import java.util.Map;
import java.util.Set;
import java.util.TreeMap;
import java.util.TreeSet;
import java.util.regex.Matcher;
import java.util.regex.Pattern;

/** What of LANGUAGE.md can be read off the text of the class; LanguageTest asks the compiled class. */
public final class SourceTest {
    private static final int MOST_DEPTH = 8;
    private static final int MOST_LINES = 60;
    private static final Checks checks = new Checks();

    private final String text;
    /** The text without its comments. */
    private final String code;
    /** The lines of each method, by its name; those of one name together, which can only ask more. */
    private final Map<String, String> methods = new TreeMap<>();

    private SourceTest(String text) {
        this.text = text;
        code = Pattern.compile("/\\*.*?\\*/|//[^\\n]*", Pattern.DOTALL).matcher(text).replaceAll(" ");
        readMethods();
    }

    /** The first argument is the project's folder. */
    public static void main(String[] args) throws IOException {
        Path source = Path.of(args[0], "src", "main", "java", "SliceBody.java");
        SourceTest test = new SourceTest(Files.readString(source));
        test.wordsLeftOut();
        test.notInUse();
        test.libraryInUse();
        test.madeInConstructors();
        test.callsHaveAnEnd();
        checks.end("SourceTest");
    }

    /** A method ends at the brace that stands below its beginning. */
    private void readMethods() {
        checks.sentence("rule 11: methods stay short (some sixty lines)");
        String[] lines = code.split("\n");
        Pattern first = Pattern.compile("( +)(?:\\w+ )*(\\w+)\\(.*\\) \\{");
        for (int i = 0; i < lines.length; i++) {
            Matcher matcher = first.matcher(lines[i]);
            if (matcher.matches()) {
                StringBuilder body = new StringBuilder();
                int end = i + 1;
                while (end < lines.length && !lines[end].equals(matcher.group(1) + "}")) {
                    body.append(lines[end]).append('\n');
                    end++;
                }
                checks.holds(matcher.group(2) + " is short", end < lines.length && end - i < MOST_LINES);
                methods.merge(matcher.group(2), body.toString(), String::concat);
            }
        }
        checks.holds("methods are found: " + methods.keySet(), methods.keySet().containsAll(Set.of("SliceBody", "space",
            "box", "at", "rib", "ribs", "figure", "about", "caught", "run", "cover", "best", "told", "lay", "laid",
            "least", "Solid", "Boards")));
    }

    private void wordsLeftOut() {
        checks.sentence("rules 2, 6, 10, 13: what the language leaves out");
        for (String word : new String[] {"throw", "throws", "try", "catch", "finally", "synchronized", "assert",
            "import", "package", "java", "volatile", "native", "strictfp", "Object", "Thread", "Random"}) {
            checks.holds("no " + word, !hasWord(word));
        }
        for (String sign : new String[] {"->", "::", "Exact(", "static {", "@"}) {
            checks.holds("no " + sign, !code.contains(sign));
        }
        checks.holds("characters 0 to 126 alone", text.chars().allMatch(c -> c < 127));
    }

    /** The language has rules on the use of these; where there are none, the rules are kept. */
    private void notInUse() {
        checks.sentence("rules 3, 6, 8: texts, doubles, equals, instanceof, rows of rows");
        for (String word : new String[] {"String", "double", "float", "equals", "hashCode", "instanceof"}) {
            checks.holds("no " + word, !hasWord(word));
        }
        for (String sign : new String[] {"\"", "'", "[]["}) {
            checks.holds("no " + sign, !code.contains(sign));
        }
    }

    private boolean hasWord(String word) {
        return Pattern.compile("\\b" + word + "\\b").matcher(code).find();
    }

    private void libraryInUse() {
        checks.sentence("rule 4: the library: only what stands here");
        Set<String> own = new TreeSet<>();
        for (Class<?> inside : SliceBody.class.getDeclaredClasses()) {
            own.add(inside.getSimpleName());
        }
        Matcher uses = Pattern.compile("\\b([A-Z]\\w*)\\.(\\w+)(\\(?)").matcher(code);
        while (uses.find()) {
            String use = uses.group();
            boolean isNumbers = use.matches("(Math|Integer|Long)\\.[a-z]\\w*\\(");
            checks.holds(use + " stands there",
                isNumbers || use.equals("System.arraycopy(") || own.contains(uses.group(1)));
        }
    }

    /** All calls of a run live in one room: only a new object makes anything, its two parts and three rows. */
    private void madeInConstructors() {
        checks.sentence("rule 12: what a run makes is counted");
        Pattern made = Pattern.compile("\\bnew\\b");
        checks.due("how often something is made", 5, made.matcher(code).results().count());
        for (String name : methods.keySet()) {
            boolean isConstructor = Character.isUpperCase(name.charAt(0));
            checks.holds(name + " makes nothing", isConstructor || !made.matcher(methods.get(name)).find());
        }
        checks.holds("no copy is made", !Pattern.compile("\\b(clone|copyOf\\w*)\\b").matcher(code).find());
    }

    private void callsHaveAnEnd() {
        checks.sentence("rules 8, 11: calls that are no recursion go at most eight deep");
        for (String name : methods.keySet()) {
            int depth = depth(name, 1);
            checks.holds(name + " goes " + depth + " deep", depth <= MOST_DEPTH);
        }
    }

    /** A method that calls itself, be it through others, is as deep as is looked. */
    private int depth(String name, int open) {
        int deepest = 1;
        Matcher calls = Pattern.compile("\\b(\\w+)\\(").matcher(methods.get(name));
        while (calls.find() && open <= MOST_DEPTH) {
            boolean isOwn = methods.containsKey(calls.group(1));
            boolean isLibrary = Set.of("max", "min", "bitCount", "arraycopy").contains(calls.group(1));
            deepest = Math.max(deepest, isOwn ? 1 + depth(calls.group(1), open + 1) : isLibrary ? 2 : 1);
        }
        return deepest;
    }
}
