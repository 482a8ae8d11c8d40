import java.io.IOException;
import java.lang.reflect.Constructor;
import java.lang.reflect.Field;
import java.lang.reflect.Method;
import java.lang.reflect.Modifier;
import java.nio.file.Files;
import java.nio.file.Path;
import java.util.Arrays;
import java.util.Set;
import java.util.TreeSet;

/** The face of the class, and what of ../shared/LANGUAGE.md can be seen at a glance. */
public final class FaceTest {
    private static final Set<String> METHODS = Set.of(
            "int begin(int,int,boolean) IllegalArgumentException",
            "int make(int,int,boolean,int) IllegalArgumentException",
            "int setTile(int,int) IndexOutOfBoundsException,IllegalArgumentException",
            "boolean setWall(int,int,boolean) IndexOutOfBoundsException,IllegalStateException",
            "boolean setLock(int,boolean) IndexOutOfBoundsException",
            "int setSource(int) IndexOutOfBoundsException",
            "int turn(int) IndexOutOfBoundsException,IllegalStateException",
            "int undo() IllegalStateException",
            "int redo() IllegalStateException",
            "int moves() ",
            "int size() ",
            "int tile(int) IndexOutOfBoundsException",
            "int neighbour(int,int) IndexOutOfBoundsException",
            "boolean isJoined(int,int) IndexOutOfBoundsException",
            "int loose() ",
            "int watered() ",
            "boolean isWatered(int) IndexOutOfBoundsException",
            "boolean isSolved() ",
            "int lays(int) IndexOutOfBoundsException",
            "int solutions() ",
            "int solutionsBySweep() ",
            "int first(int) IndexOutOfBoundsException,IllegalStateException",
            "int fewestTurns() IllegalStateException");
    private static final String[] FORBIDDEN = {
        "package ", "->", "::", "catch", "finally", "synchronized", "assert ", "protected ", "HashMap",
        "System.out", "System.currentTimeMillis", "System.nanoTime", "Random", "Exact(", "java.io", "while (true"};

    private FaceTest() {
    }

    public static void main(String[] args) throws IOException {
        publicMembers();
        classesInside();
        source(Files.readString(Path.of(args.length > 0 ? args[0] : "src/main/java/NetPlumber.java")));
        Check.end();
    }

    private static String names(Class<?>[] types) {
        StringBuilder all = new StringBuilder();
        for (Class<?> type : types) {
            all.append(all.length() == 0 ? "" : ",").append(type.getSimpleName());
        }
        return all.toString();
    }

    private static void publicMembers() {
        Set<String> found = new TreeSet<>();
        Set<String> publicNames = new TreeSet<>();
        for (Method method : NetPlumber.class.getDeclaredMethods()) {
            if (!Modifier.isPrivate(method.getModifiers()) && !method.isSynthetic()) {
                found.add(method.getReturnType() + " " + method.getName() + "("
                        + names(method.getParameterTypes()) + ") " + names(method.getExceptionTypes()));
                publicNames.add(method.getName());
            }
        }
        Check.due("the public methods", new TreeSet<>(METHODS), () -> found);
        for (Method method : NetPlumber.class.getDeclaredMethods()) {
            boolean hidden = Modifier.isPrivate(method.getModifiers());
            Check.due(method.getName() + " hides a public name", false,
                    () -> hidden && publicNames.contains(method.getName()));
        }
        for (Constructor<?> constructor : NetPlumber.class.getDeclaredConstructors()) {
            Check.due("parameters of the constructor", 0, constructor::getParameterCount);
        }
        Set<String> constants = new TreeSet<>();
        for (Field field : NetPlumber.class.getDeclaredFields()) {
            if (!Modifier.isPrivate(field.getModifiers())) {
                constants.add(field.getName());
            }
        }
        Check.due("the constants", new TreeSet<>(Set.of("NONE", "UP", "RIGHT", "DOWN", "LEFT")), () -> constants);
        Check.due("final", true, () -> Modifier.isFinal(NetPlumber.class.getModifiers()));
    }

    private static void classesInside() {
        Class<?>[] inside = NetPlumber.class.getDeclaredClasses();
        Check.due("at most twelve classes", true, () -> inside.length < 12);
        for (Class<?> one : inside) {
            Check.due(one + " is static", true, () -> Modifier.isStatic(one.getModifiers()));
            Check.due(one + " is not public", false, () -> Modifier.isPublic(one.getModifiers()));
            Check.due(one + " has at most 20 fields", true, () -> one.getDeclaredFields().length <= 20);
            for (Field field : one.getDeclaredFields()) {
                int modifiers = field.getModifiers();
                Check.due(field + " is final if static", true,
                        () -> !Modifier.isStatic(modifiers) || Modifier.isFinal(modifiers));
            }
        }
    }

    private static void source(String text) {
        for (String word : FORBIDDEN) {
            Check.due("the source holds " + word, false, () -> text.contains(word));
        }
        Check.due("the source imports", "[import java.util.Arrays;]",
                () -> Arrays.toString(text.lines().filter(line -> line.startsWith("import")).toArray()));
        Check.due("signs beyond 127", 0L, () -> text.chars().filter(sign -> sign > 127).count());
        int start = -1;
        String[] lines = text.split("\n");
        for (int k = 0; k < lines.length; k++) {
            boolean opens = lines[k].endsWith("{") && lines[k].contains("(");
            if (lines[k].matches("( {4}| {8})(public|private|static|void|int|long|boolean).*") && opens) {
                start = k;
            }
            if (lines[k].matches(" {4}}| {8}}") && start >= 0) {
                int length = k - start + 1;
                String head = lines[start].trim();
                Check.due(head + " has some sixty lines at most", true, () -> length <= 60);
                start = -1;
            }
        }
    }
}
