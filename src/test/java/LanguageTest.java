import java.io.IOException;
import java.lang.reflect.Executable;
import java.lang.reflect.Field;
import java.lang.reflect.Method;
import java.lang.reflect.Modifier;
import java.nio.file.Files;
import java.nio.file.Path;
import java.util.Set;
import java.util.TreeSet;
import java.util.regex.Pattern;

/** The document's face, and what of LANGUAGE.md can be read off the class and its source. */
public final class LanguageTest {
    private static final Checks checks = new Checks();
    private static final Set<String> FACE = Set.of("space(int, int, int)",
        "box(int, int, int, int, int, int, boolean)", "at(int, int, int)", "rib(int, int, boolean)",
        "ribs(int, int)", "figure(int, int, int, int, boolean)", "about(int, int, int)", "caught(int)",
        "run(int, int, int)", "cover()", "best(int, int)", "told(int)", "lay(int, int, int)", "laid(int, int)",
        "least()");
    private static final Set<String> CONSTANTS = Set.of("UNKNOWN", "OUTSIDE", "STATE", "NO", "NONE");

    /** The first argument is the path of SliceBody.java. */
    public static void main(String[] args) throws IOException {
        face();
        for (Class<?> inside : SliceBody.class.getDeclaredClasses()) {
            insideClass(inside);
        }
        eachClass(SliceBody.class);
        checks.holds("at most twelve classes", SliceBody.class.getDeclaredClasses().length < 12);
        source(Files.readString(Path.of(args[0])));
        checks.end("LanguageTest");
    }

    private static void face() {
        checks.due("modifiers of the class", Modifier.PUBLIC | Modifier.FINAL, SliceBody.class.getModifiers());
        checks.holds("no class above it", SliceBody.class.getSuperclass() == Object.class);
        checks.due("interfaces", 0, SliceBody.class.getInterfaces().length);
        checks.due("constructors", 1, SliceBody.class.getDeclaredConstructors().length);
        Set<String> seen = new TreeSet<>();
        for (Method method : SliceBody.class.getDeclaredMethods()) {
            if (!Modifier.isPrivate(method.getModifiers())) {
                seen.add(signature(method));
                checks.due("modifiers of " + method, Modifier.PUBLIC, method.getModifiers());
                checks.holds("int of " + method, method.getReturnType() == int.class);
            }
        }
        checks.holds("the methods of the document and no other: " + seen, seen.equals(FACE));
        Set<String> constants = new TreeSet<>();
        for (Field field : SliceBody.class.getDeclaredFields()) {
            if (!Modifier.isPrivate(field.getModifiers())) {
                constants.add(field.getName());
                checks.due("modifiers of " + field, Modifier.PUBLIC | Modifier.STATIC | Modifier.FINAL,
                    field.getModifiers());
                checks.holds("int of " + field, field.getType() == int.class);
            }
        }
        checks.holds("the constants of the document and no other: " + constants, constants.equals(CONSTANTS));
    }

    private static String signature(Method method) {
        StringBuilder text = new StringBuilder(method.getName()).append('(');
        for (Class<?> type : method.getParameterTypes()) {
            text.append(text.charAt(text.length() - 1) == '(' ? "" : ", ").append(type.getName());
        }
        return text.append(')').toString();
    }

    private static void insideClass(Class<?> inside) {
        int modifiers = inside.getModifiers();
        checks.holds(inside + " is static", Modifier.isStatic(modifiers));
        checks.holds(inside + " is hidden", !Modifier.isPublic(modifiers) && !Modifier.isProtected(modifiers));
        for (Method method : inside.getDeclaredMethods()) {
            for (String face : FACE) {
                checks.holds(method + " bears another name", !face.startsWith(method.getName() + "("));
            }
        }
        eachClass(inside);
    }

    private static void eachClass(Class<?> each) {
        int fields = 0;
        for (Field field : each.getDeclaredFields()) {
            if (Modifier.isStatic(field.getModifiers())) {
                checks.holds(field + " is final", Modifier.isFinal(field.getModifiers()));
            } else {
                fields++;
            }
        }
        checks.holds(each + " has at most twenty fields", fields <= 20);
        for (Executable method : each.getDeclaredMethods()) {
            checks.holds(method + " takes at most seven", method.getParameterCount() <= 7);
        }
    }

    private static void source(String text) {
        String code = Pattern.compile("/\\*.*?\\*/|//[^\\n]*", Pattern.DOTALL).matcher(text).replaceAll(" ");
        for (String word : new String[] {"throw", "throws", "try", "catch", "finally", "synchronized", "assert",
            "import", "package", "java", "volatile", "native", "strictfp", "Object", "Thread", "Random"}) {
            checks.holds("no " + word, !Pattern.compile("\\b" + word + "\\b").matcher(code).find());
        }
        for (String sign : new String[] {"->", "::", "Exact(", "static {", "@"}) {
            checks.holds("no " + sign, !code.contains(sign));
        }
        checks.holds("characters 0 to 126 alone", text.chars().allMatch(c -> c < 127));
        // All calls of a run live in one room: only a new object makes anything, its two parts and three rows.
        long made = Pattern.compile("\\bnew\\b").matcher(code).results().count();
        checks.due("how often something is made", 5, made);
        longestMethod(text);
    }

    /** A method's lines lie between its first line and the brace that stands below its beginning. */
    private static void longestMethod(String text) {
        String[] lines = text.split("\n");
        for (int i = 0; i < lines.length; i++) {
            if (lines[i].matches(" {4}( {4})?\\w[\\w \\[\\]]*\\(.*\\{")) {
                String indent = lines[i].replaceAll("\\S.*", "");
                int end = i;
                while (end < lines.length && !lines[end].equals(indent + "}")) {
                    end++;
                }
                checks.holds("short: " + lines[i].strip(), end < lines.length && end - i <= 60);
            }
        }
    }
}
