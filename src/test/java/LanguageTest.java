import java.io.IOException;
import java.lang.reflect.Constructor;
import java.lang.reflect.Field;
import java.lang.reflect.Method;
import java.lang.reflect.Modifier;
import java.nio.file.Files;
import java.nio.file.Path;
import java.util.Set;
import java.util.TreeSet;
import java.util.regex.Pattern;

/** The document's face, and those rules of LANGUAGE.md that can be looked up. Run from the project's folder. */
public final class LanguageTest {
    private static final String[] METHODS = {
        "behaviour/2", "delay/3", "tell/2", "event/4", "drop/1", "told/2", "play/1", "height/2", "holds/1",
        "fails/0", "letter/2", "reached/1", "bytes/1", "shrink/0", "minimal/0", "sets/1", "count/1"};
    private static final String[] FORBIDDEN = {
        "\\bthrow\\b", "\\btry\\b", "\\bcatch\\b", "\\bsynchronized\\b", "\\bassert\\b", "->", "::",
        "Exact\\(", "\\bthrows\\b", "static \\{", "\\bpackage\\b", "\\bprotected\\b", "System\\.(?!arraycopy)"};

    public static void main(String[] args) throws IOException {
        constants();
        members();
        classesInside();
        source();
        Due.end();
    }

    private static void constants() {
        Due.due("NONE", PartitionPlay.NONE, -1);
        Due.due("UNKNOWN", PartitionPlay.UNKNOWN, -2);
        Due.due("OUTSIDE", PartitionPlay.OUTSIDE, -3);
        Due.due("STATE", PartitionPlay.STATE, -4);
        Due.due("ROOM", PartitionPlay.ROOM, -5);
        int open = 0;
        for (Field field : PartitionPlay.class.getDeclaredFields()) {
            open += Modifier.isPrivate(field.getModifiers()) ? 0 : 1;
        }
        Due.due("fields that are not private", open, 5);
    }

    private static void members() {
        Set<String> due = new TreeSet<>(Set.of(METHODS));
        Set<String> open = new TreeSet<>();
        for (Method method : PartitionPlay.class.getDeclaredMethods()) {
            if (!Modifier.isPrivate(method.getModifiers())) {
                open.add(method.getName() + "/" + method.getParameterCount());
                Due.due(method + " is public", Modifier.isPublic(method.getModifiers()) ? 1 : 0, 1);
                Due.due(method + " is of the object", Modifier.isStatic(method.getModifiers()) ? 1 : 0, 0);
                Due.due(method + " answers an int", method.getReturnType() == int.class ? 1 : 0, 1);
            }
        }
        Due.dueText("the methods", open.toString(), due.toString());
        Constructor<?>[] constructors = PartitionPlay.class.getDeclaredConstructors();
        Due.due("constructors", constructors.length, 1);
        Due.due("the constructor is public", Modifier.isPublic(constructors[0].getModifiers()) ? 1 : 0, 1);
        Due.due("the class is final", Modifier.isFinal(PartitionPlay.class.getModifiers()) ? 1 : 0, 1);
    }

    private static void classesInside() {
        Set<String> taken = new TreeSet<>();
        for (String method : METHODS) {
            taken.add(method.substring(0, method.indexOf('/')));
        }
        for (Class<?> inside : PartitionPlay.class.getDeclaredClasses()) {
            int modifiers = inside.getModifiers();
            Due.due(inside + " is static", Modifier.isStatic(modifiers) ? 1 : 0, 1);
            Due.due(inside + " is open", Modifier.isPublic(modifiers) || Modifier.isProtected(modifiers) ? 1 : 0, 0);
            Due.due(inside + " has few fields", inside.getDeclaredFields().length <= 20 ? 1 : 0, 1);
            for (Method method : inside.getDeclaredMethods()) {
                Due.due(method + " bears a name of the face", taken.contains(method.getName()) ? 1 : 0, 0);
                Due.due(method + " has few parameters", method.getParameterCount() <= 7 ? 1 : 0, 1);
            }
        }
    }

    private static void source() throws IOException {
        String source = Files.readString(Path.of("src/main/java/PartitionPlay.java"));
        String code = source.replaceAll("(?s)/\\*.*?\\*/", "").replaceAll("//[^\n]*", "");
        for (String forbidden : FORBIDDEN) {
            Due.due("the source has " + forbidden, Pattern.compile(forbidden).matcher(code).find() ? 1 : 0, 0);
        }
    }
}
