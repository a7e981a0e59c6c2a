import java.io.IOException;
import java.lang.reflect.Method;
import java.lang.reflect.Modifier;
import java.nio.file.Files;
import java.nio.file.Path;
import java.util.regex.Matcher;
import java.util.regex.Pattern;

/** README.md says what is so: its examples are run, its tables name each call, refusal and test. */
public final class ReadmeTest {
    private static final Pattern MADE = Pattern.compile("TwelveCars wheel = new TwelveCars\\(\\);");
    private static final Pattern CALL = Pattern.compile("wheel\\.(\\w+)\\((.*?)\\); +// (-?\\d+): .+");
    private static final Check CHECK = new Check();

    private static TwelveCars wheel = null;

    public static void main(String[] args) throws IOException, ReflectiveOperationException {
        String page = Files.readString(Path.of("README.md"));
        examples(page);
        calls(page);
        refusals(page);
        tests(page);
        CHECK.end();
    }

    private static void examples(String page) throws ReflectiveOperationException {
        int rows = 0;
        Matcher block = Pattern.compile("(?s)```java\n(.*?)```").matcher(page);
        while (block.find()) {
            wheel = null;
            for (String row : block.group(1).split("\n")) {
                example(row);
                rows++;
            }
        }
        CHECK.holds("README.md has no examples", rows > 0);
    }

    private static void example(String row) throws ReflectiveOperationException {
        if (MADE.matcher(row).matches()) {
            wheel = new TwelveCars();
            return;
        }
        Matcher call = CALL.matcher(row);
        boolean readable = call.matches() && wheel != null;
        CHECK.holds("can't be run: " + row, readable);
        if (readable) {
            CHECK.due(row, answer(call.group(1), call.group(2)), Long.parseLong(call.group(3)));
        }
    }

    private static int answer(String name, String inBrackets) throws ReflectiveOperationException {
        Method method = methodOf(name);
        Class<?>[] types = method.getParameterTypes();
        String[] words = inBrackets.isEmpty() ? new String[0] : inBrackets.split(", ");
        Object[] values = new Object[words.length];
        for (int i = 0; i < words.length; i++) {
            long value = Long.decode(words[i].replace("L", ""));
            values[i] = types[i] == long.class ? (Object) value : (Object) (int) value;
        }
        return (Integer) method.invoke(wheel, values);
    }

    private static Method methodOf(String name) throws NoSuchMethodException {
        for (Method one : TwelveCars.class.getDeclaredMethods()) {
            if (Modifier.isPublic(one.getModifiers()) && one.getName().equals(name)) {
                return one;
            }
        }
        throw new NoSuchMethodException(name);
    }

    /** Each call has a row of its own, with as many names in brackets as it takes. */
    private static void calls(String page) {
        for (Method one : TwelveCars.class.getDeclaredMethods()) {
            if (Modifier.isPublic(one.getModifiers())) {
                int n = one.getParameterCount();
                String names = n == 0 ? "" : "\\w+(, \\w+){" + (n - 1) + "}";
                Pattern row = Pattern.compile("(?m)^\\| `" + one.getName() + "\\(" + names + "\\)` \\|");
                CHECK.due("rows of " + one.getName(), row.matcher(page).results().count(), 1);
            }
        }
    }

    private static void refusals(String page) throws IllegalAccessException {
        for (var one : TwelveCars.class.getDeclaredFields()) {
            if (Modifier.isPublic(one.getModifiers())) {
                String row = "| `" + one.getName() + "` | " + one.getInt(null) + " |";
                CHECK.holds("README.md has no row " + row, page.contains(row));
            }
        }
    }

    private static void tests(String page) throws IOException {
        try (var files = Files.list(Path.of("src/test/java"))) {
            for (Path file : (Iterable<Path>) files::iterator) {
                String name = file.getFileName().toString().replace(".java", "");
                CHECK.holds("README.md does not name " + name, page.contains("`" + name + "`"));
            }
        }
    }
}
