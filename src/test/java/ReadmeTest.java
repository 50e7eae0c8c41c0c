import java.io.File;
import java.io.IOException;
import java.lang.reflect.Method;
import java.lang.reflect.Modifier;
import java.nio.file.Files;
import java.nio.file.Path;
import java.util.regex.Matcher;
import java.util.regex.Pattern;

/** README.md: its example answers as it says, and it names every call and every test. Run from the project's folder. */
public final class ReadmeTest {
    private static final Pattern EXAMPLE = Pattern.compile("(?s)```java\n(.*?)```");
    private static final Pattern MAKING = Pattern.compile("PartitionPlay x = new PartitionPlay\\((-?\\d+)\\);.*");
    private static final Pattern CALL = Pattern.compile("x\\.(\\w+)\\(([-\\d, ]*)\\); +// (-?\\d+): .*");

    public static void main(String[] args) throws IOException, ReflectiveOperationException {
        String page = Files.readString(Path.of("README.md"));
        Matcher examples = EXAMPLE.matcher(page);
        Due.due("README.md has an example", examples.find() ? 1 : 0, 1);
        if (Due.allRight()) {
            followExample(examples.group(1).split("\n"));
        }
        namesEveryCall(page);
        namesEveryTest(page);
        Due.end();
    }

    private static void followExample(String[] rows) throws ReflectiveOperationException {
        Matcher making = MAKING.matcher(rows[0]);
        Due.due("the example begins with a new object: " + rows[0], making.matches() ? 1 : 0, 1);
        if (!Due.allRight()) {
            return;
        }
        PartitionPlay x = new PartitionPlay(Integer.parseInt(making.group(1)));
        StringBuilder used = new StringBuilder();
        for (int i = 1; i < rows.length; i++) {
            Matcher call = CALL.matcher(rows[i]);
            Due.due("a row has a call and its answer: " + rows[i], call.matches() ? 1 : 0, 1);
            if (call.matches()) {
                Due.due(rows[i], answer(x, call.group(1), call.group(2)), Integer.parseInt(call.group(3)));
                used.append(' ').append(call.group(1)).append(' ');
            }
        }
        for (Method method : PartitionPlay.class.getDeclaredMethods()) {
            if (Modifier.isPublic(method.getModifiers())) {
                Due.due("the example uses " + method.getName(), used.indexOf(" " + method.getName() + " ") >= 0 ? 1 : 0, 1);
            }
        }
    }

    private static int answer(PartitionPlay x, String name, String numbers) throws ReflectiveOperationException {
        String[] words = numbers.isBlank() ? new String[0] : numbers.split(", ");
        Class<?>[] types = new Class<?>[words.length];
        Object[] values = new Object[words.length];
        for (int i = 0; i < words.length; i++) {
            types[i] = int.class;
            values[i] = Integer.valueOf(words[i]);
        }
        return (Integer) PartitionPlay.class.getMethod(name, types).invoke(x, values);
    }

    private static void namesEveryCall(String page) {
        for (Method method : PartitionPlay.class.getDeclaredMethods()) {
            if (Modifier.isPublic(method.getModifiers())) {
                Pattern row = Pattern.compile("(?m)^\\| `" + method.getName() + "\\(([^)]*)\\)` \\|");
                Matcher found = row.matcher(page);
                boolean named = found.find();
                Due.due("the page has a row for " + method.getName(), named ? 1 : 0, 1);
                int parameters = !named || found.group(1).isEmpty() ? 0 : found.group(1).split(",").length;
                Due.due("parameters in the row for " + method.getName(), parameters, method.getParameterCount());
            }
        }
    }

    private static void namesEveryTest(String page) {
        String[] files = new File("src/test/java").list();
        Due.due("there are tests", files != null && files.length > 0 ? 1 : 0, 1);
        for (String file : files == null ? new String[0] : files) {
            if (file.endsWith("Test.java")) {
                String name = file.substring(0, file.length() - ".java".length());
                Due.due("the page names " + name, page.contains("`" + name + "`") ? 1 : 0, 1);
            }
        }
    }
}
