import java.io.IOException;
import java.lang.reflect.Field;
import java.lang.reflect.Method;
import java.lang.reflect.Modifier;
import java.nio.file.DirectoryStream;
import java.nio.file.Files;
import java.nio.file.Path;
import java.util.Set;
import java.util.TreeSet;
import java.util.regex.Matcher;
import java.util.regex.Pattern;

/** README.md: every call that it shows has the answer that it tells, and every call and every test is in it. */
public final class ReadmeTest {
    private static final Checks checks = new Checks();
    private static final Pattern CALL = Pattern.compile("body\\.(\\w+)\\((.*?)\\); +// (-?\\d+|[A-Z]+)\\b.*");

    private final Set<String> called = new TreeSet<>();
    private final Set<String> answered = new TreeSet<>();
    private SliceBody body = null;

    /** The first argument is the project's folder. */
    public static void main(String[] args) throws Exception {
        String text = Files.readString(Path.of(args[0], "README.md"));
        ReadmeTest test = new ReadmeTest();
        test.examples(text);
        test.allOfTheFace();
        checks.holds(".ci/run is told", text.contains(".ci/run"));
        allTestsNamed(text, Path.of(args[0], "src", "test", "java"));
        checks.end("ReadmeTest");
    }

    private void examples(String text) throws Exception {
        Matcher blocks = Pattern.compile("```java\n(.*?)```", Pattern.DOTALL).matcher(text);
        while (blocks.find()) {
            body = null;
            for (String line : blocks.group(1).split("\n")) {
                oneLine(line);
            }
        }
    }

    private void oneLine(String line) throws Exception {
        Matcher call = CALL.matcher(line);
        if (line.startsWith("SliceBody body = new SliceBody();")) {
            body = new SliceBody();
        } else if (body != null && call.matches()) {
            String answer = call.group(3);
            called.add(call.group(1));
            answered.add(answer);
            checks.due(line, asNumber(answer), answer(call.group(1), call.group(2)));
        } else {
            checks.holds("a call on an object, with its answer: " + line, line.isBlank());
        }
    }

    private static int asNumber(String answer) throws Exception {
        return answer.matches("[A-Z]+") ? SliceBody.class.getField(answer).getInt(null) : Integer.parseInt(answer);
    }

    private int answer(String name, String arguments) throws Exception {
        String[] given = arguments.isEmpty() ? new String[0] : arguments.split(", ");
        Object[] values = new Object[given.length];
        for (int i = 0; i < given.length; i++) {
            boolean isWord = given[i].equals("true") || given[i].equals("false");
            values[i] = isWord ? (Object) Boolean.valueOf(given[i]) : (Object) Integer.valueOf(given[i]);
        }
        for (Method method : SliceBody.class.getDeclaredMethods()) {
            if (method.getName().equals(name) && Modifier.isPublic(method.getModifiers())) {
                return (int) method.invoke(body, values);
            }
        }
        throw new IllegalArgumentException("no such call: " + name);
    }

    private void allOfTheFace() {
        for (Method method : SliceBody.class.getDeclaredMethods()) {
            boolean isPublic = Modifier.isPublic(method.getModifiers());
            checks.holds(method.getName() + " is shown", !isPublic || called.contains(method.getName()));
        }
        for (Field field : SliceBody.class.getFields()) {
            checks.holds(field.getName() + " is shown", answered.contains(field.getName()));
        }
    }

    private static void allTestsNamed(String text, Path folder) throws IOException {
        try (DirectoryStream<Path> files = Files.newDirectoryStream(folder, "*.java")) {
            for (Path file : files) {
                String name = file.getFileName().toString().replace(".java", "");
                checks.holds(name + " is told", text.contains("`" + name + "`"));
            }
        }
    }
}
