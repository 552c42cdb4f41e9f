import java.io.File;
import java.io.IOException;
import java.lang.reflect.InvocationTargetException;
import java.lang.reflect.Method;
import java.lang.reflect.Modifier;
import java.nio.charset.StandardCharsets;
import java.nio.file.Files;
import java.nio.file.Path;
import java.util.regex.Matcher;
import java.util.regex.Pattern;

/** README.md: its calls answer what it says, and it names each call and each test. */
public final class ReadmeTest {
    private static final Pattern CALL =
            Pattern.compile("(?m)^x\\.(\\w+)\\(([-\\d, ]*)\\); +// (-?\\d+)\\b");
    private static final Due d = new Due();

    public static void main(String[] args) throws IOException, IllegalAccessException {
        String page = Files.readString(Path.of("README.md"), StandardCharsets.UTF_8);
        calls(page);
        names(page);
        tests(page);
        d.finish();
    }

    private static void calls(String page) throws IllegalAccessException {
        ForestKeeper x = new ForestKeeper();
        Matcher call = CALL.matcher(page);
        int made = 0;
        while (call.find()) {
            made++;
            d.is(call.group(), answer(x, call.group(1), call.group(2)), Long.parseLong(call.group(3)));
        }
        d.is("each line of the example is a call with its answer", made,
                Pattern.compile("(?m)^x\\.").matcher(page).results().count());
        d.is("there is an example", made >= 10 ? 1 : 0, 1);
    }

    private static long answer(ForestKeeper x, String name, String numbers)
            throws IllegalAccessException {
        String[] texts = numbers.isEmpty() ? new String[0] : numbers.split(", ");
        Method m = named(name);
        Object[] with = new Object[texts.length];
        for (int i = 0; i < texts.length; i++) {
            with[i] = m.getParameterTypes()[i] == int.class
                    ? (Object) Integer.parseInt(texts[i]) : (Object) Long.parseLong(texts[i]);
        }
        try {
            return ((Number) m.invoke(x, with)).longValue();
        } catch (InvocationTargetException thrown) {
            throw new IllegalStateException(name, thrown.getCause());
        }
    }

    private static Method named(String name) {
        for (Method m : ForestKeeper.class.getDeclaredMethods()) {
            if (m.getName().equals(name) && Modifier.isPublic(m.getModifiers())) {
                return m;
            }
        }
        throw new IllegalStateException("README.md calls what there is not: " + name);
    }

    private static void names(String page) throws IOException {
        for (String name : new Face().names) {
            d.is("it names the call " + name, page.contains("`" + name + "`") ? 1 : 0, 1);
        }
    }

    private static void tests(String page) {
        String[] files = new File("src/test/java").list();
        int found = 0;
        for (String file : files == null ? new String[0] : files) {
            if (file.endsWith("Test.java")) {
                found++;
                String name = file.substring(0, file.length() - 5);
                d.is("it names the test " + name, page.contains("| " + name + " |") ? 1 : 0, 1);
            }
        }
        d.is("tests in its table", Pattern.compile("(?m)^\\| \\w+Test \\|").matcher(page).results().count(),
                found);
        d.is("it says how to run them", page.contains("\n    .ci/run\n") ? 1 : 0, 1);
    }
}
