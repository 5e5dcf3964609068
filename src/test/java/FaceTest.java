import java.io.IOException;
import java.lang.reflect.Constructor;
import java.lang.reflect.Field;
import java.lang.reflect.Method;
import java.lang.reflect.Modifier;
import java.nio.file.Files;
import java.nio.file.Path;
import java.util.ArrayList;
import java.util.Arrays;
import java.util.List;
import java.util.TreeSet;

/** The public face, and what of LANGUAGE.md can be seen from the text and the compiled class. */
final class FaceTest {
    private static final String BOUNDS = "IndexOutOfBoundsException";
    private static final String STATE = "IllegalStateException";
    private static final String ARGUMENT = "IllegalArgumentException";
    private static final String[] FACE = {
        "void begin(int) " + ARGUMENT, "int setFill(int) " + ARGUMENT, "int setPatience(int) " + ARGUMENT,
        "int move(int, int) " + BOUNDS + " " + STATE + " " + ARGUMENT, "void pass() " + STATE,
        "int undo() " + STATE, "int at(int) " + BOUNDS, "int cellAt(int, int)", "int campOf(int) " + BOUNDS,
        "int distance(int, int) " + BOUNDS, "int turn()", "int made()", "int ends(int) " + BOUNDS,
        "int endAt(int, int) " + BOUNDS, "int moves()", "int chainAt(int, int, int) " + BOUNDS,
        "int hops(int, int) " + BOUNDS, "int finished(int) " + BOUNDS, "boolean isOut(int) " + BOUNDS,
        "int way(int) " + BOUNDS, "int bestFrom()", "int bestTo()"
    };
    private static final String[] NOT_IN_THE_TEXT = {
        "import ", "package ", "->", "::", "try {", "try (", "catch", "finally", "synchronized", "assert ",
        "System.", "Thread", "Object ", "Exact(", "random", "static {", "MAX_VALUE", "MIN_VALUE"
    };
    private static final int MOST_PARAMETERS = 7;
    private static final int MOST_CLASSES = 12;
    private static final int MOST_FIELDS = 20;

    public static void main(String[] args) throws IOException {
        methodsAreTheDocumentsOnes();
        nothingElseIsOpen();
        innerClassesAreStaticAndHidden();
        noOtherMethodBearsAPublicName();
        classesStaySmall();
        textKeepsToTheRules(Path.of("src/main/java/HopperCourt.java"));
        Check.end();
    }

    private static void methodsAreTheDocumentsOnes() {
        TreeSet<String> got = new TreeSet<>();
        for (Method method : HopperCourt.class.getDeclaredMethods()) {
            if (!Modifier.isPrivate(method.getModifiers()) && !method.isSynthetic()) {
                got.add(describe(method));
            }
        }
        Check.due("the methods", String.join("; ", got), String.join("; ", new TreeSet<>(List.of(FACE))));
    }

    /** The names of the calls of the document's face. */
    static List<String> calls() {
        List<String> names = new ArrayList<>();
        for (String call : FACE) {
            names.add(call.substring(call.indexOf(' ') + 1, call.indexOf('(')));
        }
        return names;
    }

    private static String describe(Method method) {
        StringBuilder text = new StringBuilder();
        text.append(method.getReturnType()).append(' ').append(method.getName()).append('(');
        text.append(String.join(", ", names(method.getParameterTypes()))).append(')');
        for (String name : names(method.getExceptionTypes())) {
            text.append(' ').append(name);
        }
        return text.toString();
    }

    private static String[] names(Class<?>[] types) {
        return Arrays.stream(types).map(Class::getSimpleName).toArray(String[]::new);
    }

    private static void nothingElseIsOpen() {
        int type = HopperCourt.class.getModifiers();
        Check.due("public and final", Modifier.isPublic(type) && Modifier.isFinal(type), true);
        for (Field field : HopperCourt.class.getDeclaredFields()) {
            boolean isNone = field.getName().equals("NONE");
            Check.due(field + " is private", Modifier.isPrivate(field.getModifiers()), !isNone);
        }
        Constructor<?>[] constructors = HopperCourt.class.getDeclaredConstructors();
        Check.due("constructors", constructors.length, 1);
        Check.due("its parameters", constructors[0].getParameterCount(), 0);
        Check.due("it is public", Modifier.isPublic(constructors[0].getModifiers()), true);
    }

    private static void innerClassesAreStaticAndHidden() {
        for (Class<?> inner : HopperCourt.class.getDeclaredClasses()) {
            int type = inner.getModifiers();
            Check.due(inner + " is static", Modifier.isStatic(type), true);
            Check.due(inner + " is hidden", Modifier.isPublic(type) || Modifier.isProtected(type), false);
            for (Field field : inner.getDeclaredFields()) {
                if (Modifier.isStatic(field.getModifiers())) {
                    Check.due(field + " is final", Modifier.isFinal(field.getModifiers()), true);
                }
            }
        }
    }

    private static List<Class<?>> allClasses() {
        List<Class<?>> all = new ArrayList<>(List.of(HopperCourt.class.getDeclaredClasses()));
        all.add(HopperCourt.class);
        return all;
    }

    /** Rule 1, read for the classes inside too. */
    private static void noOtherMethodBearsAPublicName() {
        TreeSet<String> open = new TreeSet<>();
        for (Method method : HopperCourt.class.getDeclaredMethods()) {
            if (Modifier.isPublic(method.getModifiers())) {
                Check.due(method.getName() + " is there once", open.add(method.getName()), true);
            }
        }
        for (Class<?> type : allClasses()) {
            for (Method method : type.getDeclaredMethods()) {
                boolean isOfTheFace = type == HopperCourt.class && Modifier.isPublic(method.getModifiers());
                Check.due(method + " bears a public name", open.contains(method.getName()), isOfTheFace);
            }
        }
    }

    /** Rule 11, as far as it can be counted here. */
    private static void classesStaySmall() {
        Check.due("at most so many classes", allClasses().size() <= MOST_CLASSES, true);
        for (Class<?> type : allClasses()) {
            int fields = 0;
            for (Field field : type.getDeclaredFields()) {
                fields += Modifier.isStatic(field.getModifiers()) ? 0 : 1;
            }
            Check.due(type + " has few fields", fields <= MOST_FIELDS, true);
            for (Method method : type.getDeclaredMethods()) {
                Check.due(method + " has few parameters", method.getParameterCount() <= MOST_PARAMETERS, true);
            }
        }
    }

    private static void textKeepsToTheRules(Path file) throws IOException {
        String text = Files.readString(file);
        for (String words : NOT_IN_THE_TEXT) {
            Check.due("the text holds '" + words + "'", text.contains(words), false);
        }
        Check.due("signs over 127", text.chars().filter(sign -> sign > 127).count(), 0);
    }
}
