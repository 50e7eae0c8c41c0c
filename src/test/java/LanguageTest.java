import java.io.IOException;
import java.lang.reflect.Constructor;
import java.lang.reflect.Field;
import java.lang.reflect.Method;
import java.lang.reflect.Modifier;
import java.nio.file.Files;
import java.nio.file.Path;
import java.util.Set;
import java.util.TreeSet;
import java.util.regex.Pattern;

/** The document's face, and those rules of LANGUAGE.md that can be looked up. Run from the project's folder. */
public final class LanguageTest {
    private static final String[] METHODS = {
        "behaviour/2", "delay/3", "tell/2", "event/4", "drop/1", "told/2", "play/1", "height/2", "holds/1",
        "fails/0", "letter/2", "reached/1", "bytes/1", "shrink/0", "minimal/0", "sets/1", "count/1"};
    private static final String[] FORBIDDEN = {
        "\\bthrow\\b", "\\btry\\b", "\\bcatch\\b", "\\bsynchronized\\b", "\\bassert\\b", "->", "::",
        "Exact\\(", "\\bthrows\\b", "static \\{", "\\bpackage\\b", "\\bprotected\\b", "System\\.(?!arraycopy)",
        "import (?!java\\.util\\.(Arrays|ArrayList|List|Iterator);)", "Arrays\\.(?!(copyOf|copyOfRange|fill)\\()",
        "Math\\.random", "\\b(Thread|Runtime|Process|ProcessBuilder|Object|Class)\\b", "\\bjava\\.(?!util\\.\\w+;)",
        "while \\(true\\)", "for \\(;;\\)", "\\[\\]\\[\\]\\["};
    private static final Set<Class<?>> KINDS_OF_CONSTANTS = Set.of(
        int.class, long.class, boolean.class, char.class, String.class, int[].class, long[].class, char[].class, byte[].class);
    private static final int MOST_LINES = 60, MOST_PARAMETERS = 7, MOST_CLASSES = 12, MOST_FIELDS = 20;

    public static void main(String[] args) throws IOException {
        constants();
        members();
        privateMethods();
        classesInside();
        source();
        Due.end();
    }

    private static void constants() {
        Due.due("NONE", PartitionPlay.NONE, -1);
        Due.due("UNKNOWN", PartitionPlay.UNKNOWN, -2);
        Due.due("OUTSIDE", PartitionPlay.OUTSIDE, -3);
        Due.due("STATE", PartitionPlay.STATE, -4);
        Due.due("ROOM", PartitionPlay.ROOM, -5);
        int open = 0;
        for (Field field : PartitionPlay.class.getDeclaredFields()) {
            open += Modifier.isPrivate(field.getModifiers()) ? 0 : 1;
        }
        Due.due("fields that are not private", open, 5);
        staticFieldsAreConstants(PartitionPlay.class);
    }

    private static void staticFieldsAreConstants(Class<?> owner) {
        for (Field field : owner.getDeclaredFields()) {
            if (Modifier.isStatic(field.getModifiers())) {
                boolean constant = Modifier.isFinal(field.getModifiers()) && KINDS_OF_CONSTANTS.contains(field.getType());
                Due.due(field + " is a constant", constant ? 1 : 0, 1);
            }
        }
    }

    private static void members() {
        Set<String> due = new TreeSet<>(Set.of(METHODS));
        Set<String> open = new TreeSet<>();
        for (Method method : PartitionPlay.class.getDeclaredMethods()) {
            if (!Modifier.isPrivate(method.getModifiers())) {
                open.add(method.getName() + "/" + method.getParameterCount());
                Due.due(method + " is public", Modifier.isPublic(method.getModifiers()) ? 1 : 0, 1);
                Due.due(method + " is of the object", Modifier.isStatic(method.getModifiers()) ? 1 : 0, 0);
                Due.due(method + " answers an int", method.getReturnType() == int.class ? 1 : 0, 1);
            }
        }
        Due.dueText("the methods", open.toString(), due.toString());
        Constructor<?>[] constructors = PartitionPlay.class.getDeclaredConstructors();
        Due.due("constructors", constructors.length, 1);
        Due.due("the constructor is public", Modifier.isPublic(constructors[0].getModifiers()) ? 1 : 0, 1);
        Due.due("the class is final", Modifier.isFinal(PartitionPlay.class.getModifiers()) ? 1 : 0, 1);
    }

    private static void privateMethods() {
        Set<String> taken = namesOfTheFace();
        for (Method method : PartitionPlay.class.getDeclaredMethods()) {
            Due.due(method + " has few parameters", method.getParameterCount() <= MOST_PARAMETERS ? 1 : 0, 1);
            if (Modifier.isPrivate(method.getModifiers())) {
                Due.due(method + " bears a name of the face", taken.contains(method.getName()) ? 1 : 0, 0);
            }
        }
    }

    private static Set<String> namesOfTheFace() {
        Set<String> names = new TreeSet<>();
        for (String method : METHODS) {
            names.add(method.substring(0, method.indexOf('/')));
        }
        return names;
    }

    private static void classesInside() {
        Set<String> taken = namesOfTheFace();
        Class<?>[] classes = PartitionPlay.class.getDeclaredClasses();
        Due.due("few classes: " + (classes.length + 1), classes.length + 1 <= MOST_CLASSES ? 1 : 0, 1);
        for (Class<?> inside : classes) {
            int modifiers = inside.getModifiers();
            Due.due(inside + " is static", Modifier.isStatic(modifiers) ? 1 : 0, 1);
            Due.due(inside + " is open", Modifier.isPublic(modifiers) || Modifier.isProtected(modifiers) ? 1 : 0, 0);
            Due.due(inside + " has few fields", inside.getDeclaredFields().length <= MOST_FIELDS ? 1 : 0, 1);
            Due.due(inside + " has no classes inside", inside.getDeclaredClasses().length, 0);
            staticFieldsAreConstants(inside);
            for (Method method : inside.getDeclaredMethods()) {
                Due.due(method + " bears a name of the face", taken.contains(method.getName()) ? 1 : 0, 0);
                Due.due(method + " has few parameters", method.getParameterCount() <= MOST_PARAMETERS ? 1 : 0, 1);
            }
        }
    }

    private static void source() throws IOException {
        String source = Files.readString(Path.of("src/main/java/PartitionPlay.java"));
        String code = source.replaceAll("(?s)/\\*.*?\\*/", "").replaceAll("//[^\n]*", "");
        for (String forbidden : FORBIDDEN) {
            Due.due("the source has " + forbidden, Pattern.compile(forbidden).matcher(code).find() ? 1 : 0, 0);
        }
        methodsAreShort(source);
    }

    /** A method begins with a header that is no class's and ends with a brace in the header's column. */
    private static void methodsAreShort(String source) {
        String[] lines = source.split("\n");
        int methods = 0;
        for (int i = 0; i < lines.length; i++) {
            if (lines[i].matches("( {4}| {8})[A-Za-z].*\\(.*\\) \\{") && !lines[i].matches(" +(if|for|while|switch) .*")) {
                int end = i;
                String brace = lines[i].substring(0, lines[i].length() - lines[i].stripLeading().length()) + "}";
                while (end < lines.length - 1 && !lines[end].equals(brace)) {
                    end++;
                }
                methods++;
                Due.due("lines of " + lines[i].strip() + ": " + (end - i + 1), end - i + 1 <= MOST_LINES ? 1 : 0, 1);
            }
        }
        Due.due("methods were found in the source", methods > METHODS.length ? 1 : 0, 1);
    }
}
