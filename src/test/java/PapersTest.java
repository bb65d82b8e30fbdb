import java.io.File;
import java.io.IOException;
import java.lang.reflect.Method;
import java.lang.reflect.Modifier;
import java.nio.charset.StandardCharsets;
import java.nio.file.Files;
import java.nio.file.Paths;
import java.util.regex.Matcher;
import java.util.regex.Pattern;

/** README.md names every call and every test, its example is so, and each promise is named by a test. */
public final class PapersTest extends Kit {
    private static final int PROMISES = 32;
    private static final Pattern ASKED = Pattern.compile("(?m)^day\\.(\\w+)\\(([0-9, ]*)\\);\\s*// (true|-?\\d+)");

    public static void main(String[] args) throws Exception {
        String readme = textOf("README.md");
        callsAreNamed(readme);
        testsAreNamed(readme);
        exampleIsSo(readme);
        promisesAreNamed();
        finish("the papers say what there is");
    }

    private static String textOf(String path) throws IOException {
        return new String(Files.readAllBytes(Paths.get(path)), StandardCharsets.UTF_8);
    }

    private static void callsAreNamed(String readme) {
        promise = "README.md, how to use the class";
        int calls = 0;
        for (Method method : ShoeingDay.class.getDeclaredMethods()) {
            if (Modifier.isPublic(method.getModifiers())) {
                calls++;
                Matcher row = Pattern.compile("(?m)^\\| `" + method.getName() + "\\(([^)]*)\\)` \\| \\S.{10,} \\|$").matcher(readme);
                boolean found = row.find();
                due("a row for " + method.getName(), found, true);
                String told = found ? row.group(1) : "";
                due("parameters of " + method.getName(), told.isEmpty() ? 0 : told.split(", ").length, method.getParameterCount());
            }
        }
        due("calls of the face", calls, 31);
    }

    private static void testsAreNamed(String readme) {
        promise = "README.md, how to run its tests";
        due("how to run them all", readme.contains("`.ci/run`"), true);
        for (String name : testFiles()) {
            boolean isTest = name.endsWith("Test.java");
            due("names " + name, !isTest || readme.contains("`" + name.replace(".java", "") + "`"), true);
        }
    }

    private static String[] testFiles() {
        String[] names = new File("src/test/java").list((folder, name) -> name.endsWith(".java"));
        return names == null ? new String[0] : names;
    }

    private static void exampleIsSo(String readme) throws ReflectiveOperationException {
        promise = "README.md, its example";
        Matcher text = Pattern.compile("String text = \"([^\"]*)\";").matcher(readme);
        due("a text", text.find(), true);
        ShoeingDay day = new ShoeingDay();
        put(day, text.group(1));
        Matcher asked = ASKED.matcher(readme);
        int calls = 0;
        while (asked.find()) {
            calls++;
            due(asked.group(), answerOf(day, asked.group(1), asked.group(2)), asked.group(3));
        }
        due("calls", calls, 9);
    }

    private static String answerOf(ShoeingDay day, String name, String told) throws ReflectiveOperationException {
        String[] numbers = told.isEmpty() ? new String[0] : told.split(", ");
        Class<?>[] types = new Class<?>[numbers.length];
        Object[] values = new Object[numbers.length];
        for (int i = 0; i < numbers.length; i++) {
            types[i] = int.class;
            values[i] = Integer.valueOf(numbers[i]);
        }
        return String.valueOf(ShoeingDay.class.getMethod(name, types).invoke(day, values));
    }

    private static void promisesAreNamed() throws IOException {
        promise = "the tests";
        StringBuilder tests = new StringBuilder();
        for (String name : testFiles()) {
            tests.append(textOf("src/test/java/" + name));
        }
        for (int number = 1; number <= PROMISES; number++) {
            due("name promise " + number, tests.indexOf("promise = \"Promise " + number + ",") >= 0, true);
        }
    }
}
