import java.io.IOException;
import java.lang.reflect.Field;
import java.lang.reflect.Method;
import java.lang.reflect.Modifier;
import java.nio.file.Files;
import java.nio.file.Path;
import java.util.regex.Matcher;
import java.util.regex.Pattern;

/** README.md's example answers what it says, and it has all of the public face; run from the root. */
public final class ReadmeTest extends Checks {
    private static final Pattern EXAMPLE_ROW =
        Pattern.compile("(?m)^desk\\.(\\w+)\\(([^;]*)\\); *// (true|false|-?\\d+)(:.*)?$");

    private ReadmeTest() { }

    public static void main(String[] args) throws ReflectiveOperationException, IOException {
        String readme = Files.readString(Path.of("README.md"));
        exampleAnswersWhatItSays(readme);
        eachMethodIsThere(readme);
        eachConstantIsThere(readme);
        finish("ReadmeTest");
    }

    private static void exampleAnswersWhatItSays(String readme) throws ReflectiveOperationException {
        ShrinkDesk desk = new ShrinkDesk();
        int rows = 0;
        Matcher row = EXAMPLE_ROW.matcher(readme);
        while (row.find()) {
            rows++;
            String answer = String.valueOf(called(desk, row.group(1), row.group(2)));
            due("README: " + row.group() + " (it was " + answer + ")",
                answer.equals(row.group(3)), true);
        }
        due("README: rows of the example", rows, readme.split("\ndesk\\.").length - 1);
        due("README: there is an example", rows > 0, true);
    }

    private static Object called(ShrinkDesk desk, String name, String written)
            throws ReflectiveOperationException {
        String[] words = written.isEmpty() ? new String[0] : written.split(", ");
        Object[] values = new Object[words.length];
        for (int k = 0; k < words.length; k++) {
            values[k] = valueOf(words[k]);
        }
        return method(name).invoke(desk, values);
    }

    private static Object valueOf(String word) {
        if (word.equals("true") || word.equals("false")) {
            return Boolean.valueOf(word);
        }
        return word.startsWith("1 << ") ? 1 << Integer.parseInt(word.substring(5)) : Integer.parseInt(word);
    }

    private static Method method(String name) throws NoSuchMethodException {
        for (Method m : ShrinkDesk.class.getDeclaredMethods()) {
            if (Modifier.isPublic(m.getModifiers()) && m.getName().equals(name)) {
                return m;
            }
        }
        throw new NoSuchMethodException(name);
    }

    private static void eachMethodIsThere(String readme) {
        for (Method m : ShrinkDesk.class.getDeclaredMethods()) {
            if (Modifier.isPublic(m.getModifiers())) {
                String words = m.getParameterCount() == 0 ? "" : "\\w+(, \\w+){" + (m.getParameterCount() - 1) + "}";
                Pattern row = Pattern.compile("(?m)^\\| `" + m.getName() + "\\(" + words + "\\)` \\| .+ \\|$");
                due("README: a row of " + m.getName(), row.matcher(readme).find(), true);
            }
        }
    }

    private static void eachConstantIsThere(String readme) throws IllegalAccessException {
        for (Field f : ShrinkDesk.class.getDeclaredFields()) {
            if (Modifier.isPublic(f.getModifiers())) {
                Pattern value = Pattern.compile("`" + f.getName() + "` " + f.getInt(null) + "[,;.]");
                due("README: the value of " + f.getName(), value.matcher(readme).find(), true);
            }
        }
    }
}
