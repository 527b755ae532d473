import java.lang.reflect.Constructor;
import java.lang.reflect.Executable;
import java.lang.reflect.Field;
import java.lang.reflect.Method;
import java.lang.reflect.Modifier;
import java.util.Map;
import java.util.Set;
import java.util.TreeMap;
import java.util.TreeSet;

/** The document's face, and what of LANGUAGE.md can be read off the compiled class; SourceTest reads the text. */
public final class LanguageTest {
    private static final Checks checks = new Checks();
    private static final Set<String> FACE = Set.of("space(int, int, int)",
        "box(int, int, int, int, int, int, boolean)", "at(int, int, int)", "rib(int, int, boolean)",
        "ribs(int, int)", "figure(int, int, int, int, boolean)", "about(int, int, int)", "caught(int)",
        "run(int, int, int)", "cover()", "best(int, int)", "told(int)", "lay(int, int, int)", "laid(int, int)",
        "least()");
    private static final Map<String, Integer> CONSTANTS =
        Map.of("UNKNOWN", -1, "OUTSIDE", -2, "STATE", -3, "NO", -5, "NONE", -6);

    public static void main(String[] args) throws IllegalAccessException {
        theClass();
        methods();
        constants();
        for (Class<?> inside : SliceBody.class.getDeclaredClasses()) {
            insideClass(inside);
        }
        eachClass(SliceBody.class);
        checks.sentence("rule 2: no local or anonymous class, no inner class in an inner class");
        checks.due("all classes of the file", SliceBody.class.getDeclaredClasses().length + 1,
            SliceBody.class.getNestMembers().length);
        checks.sentence("rule 11: the file has at most some twelve classes");
        checks.holds("at most twelve classes", SliceBody.class.getDeclaredClasses().length < 12);
        checks.end("LanguageTest");
    }

    private static void theClass() {
        checks.sentence("The public face: public final class SliceBody, public SliceBody()");
        checks.due("modifiers of the class", Modifier.PUBLIC | Modifier.FINAL, SliceBody.class.getModifiers());
        checks.holds("no class above it", SliceBody.class.getSuperclass() == Object.class);
        checks.due("interfaces", 0, SliceBody.class.getInterfaces().length);
        checks.holds("no package", SliceBody.class.getPackageName().isEmpty());
        Constructor<?>[] constructors = SliceBody.class.getDeclaredConstructors();
        checks.due("constructors", 1, constructors.length);
        checks.due("modifiers of the constructor", Modifier.PUBLIC, constructors[0].getModifiers());
        checks.due("what it takes", 0, constructors[0].getParameterCount());
    }

    private static void methods() {
        checks.sentence("The public face: its methods, and no others");
        Set<String> seen = new TreeSet<>();
        for (Method method : SliceBody.class.getDeclaredMethods()) {
            if (!Modifier.isPrivate(method.getModifiers())) {
                seen.add(signature(method));
                checks.due("modifiers of " + method, Modifier.PUBLIC, method.getModifiers());
                checks.holds("int of " + method, method.getReturnType() == int.class);
            } else {
                bearsAnotherName(method);
            }
        }
        checks.holds("the methods of the document and no other: " + seen, seen.equals(FACE));
    }

    private static void constants() throws IllegalAccessException {
        checks.sentence("UNKNOWN = -1, OUTSIDE = -2, STATE = -3, NO = -5, NONE = -6");
        Map<String, Integer> seen = new TreeMap<>();
        for (Field field : SliceBody.class.getDeclaredFields()) {
            if (!Modifier.isPrivate(field.getModifiers())) {
                checks.due("modifiers of " + field, Modifier.PUBLIC | Modifier.STATIC | Modifier.FINAL,
                    field.getModifiers());
                checks.holds("int of " + field, field.getType() == int.class);
                seen.put(field.getName(), field.getInt(null));
            }
        }
        checks.holds("the constants of the document and no other: " + seen, seen.equals(CONSTANTS));
    }

    private static String signature(Method method) {
        StringBuilder text = new StringBuilder(method.getName()).append('(');
        for (Class<?> type : method.getParameterTypes()) {
            text.append(text.charAt(text.length() - 1) == '(' ? "" : ", ").append(type.getName());
        }
        return text.append(')').toString();
    }

    private static void bearsAnotherName(Method method) {
        for (String face : FACE) {
            checks.holds(method + " bears another name", !face.startsWith(method.getName() + "("));
        }
    }

    private static void insideClass(Class<?> inside) {
        checks.sentence("rule 1: classes inside it, which are private or package-visible and static");
        int modifiers = inside.getModifiers();
        checks.holds(inside + " is static", Modifier.isStatic(modifiers));
        checks.holds(inside + " is hidden", !Modifier.isPublic(modifiers) && !Modifier.isProtected(modifiers));
        for (Method method : inside.getDeclaredMethods()) {
            bearsAnotherName(method);
        }
        eachClass(inside);
    }

    private static void eachClass(Class<?> each) {
        checks.sentence("rules 3, 5, 11: types, static fields, how many fields and parameters");
        int fields = 0;
        for (Field field : each.getDeclaredFields()) {
            if (Modifier.isStatic(field.getModifiers())) {
                checks.holds(field + " is final", Modifier.isFinal(field.getModifiers()));
                checks.holds(field + " is a constant", isConstantType(field.getType()));
            } else {
                checks.holds(field + " is of a type that may be", isType(field.getType()));
                fields++;
            }
        }
        checks.holds(each + " has at most twenty fields", fields <= 20);
        for (Method method : each.getDeclaredMethods()) {
            checks.holds(method + " answers what may be", isType(method.getReturnType()));
            takes(method);
        }
        for (Constructor<?> constructor : each.getDeclaredConstructors()) {
            takes(constructor);
        }
    }

    private static void takes(Executable method) {
        checks.holds(method + " takes at most seven", method.getParameterCount() <= 7);
        for (Class<?> type : method.getParameterTypes()) {
            checks.holds(method + " takes what may be", isType(type));
        }
    }

    private static boolean isConstantType(Class<?> type) {
        return Set.of(int.class, long.class, boolean.class, char.class, String.class, int[].class, long[].class,
            char[].class, byte[].class).contains(type);
    }

    /** The class needs no more of rule 3 than numbers, rows of them, and its own classes. */
    private static boolean isType(Class<?> type) {
        Class<?> each = type.isArray() ? type.getComponentType() : type;
        return each.isPrimitive() || each.getNestHost() == SliceBody.class;
    }
}
