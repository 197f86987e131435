import java.io.File;
import java.io.IOException;
import java.lang.reflect.Field;
import java.lang.reflect.Method;
import java.lang.reflect.Modifier;
import java.nio.file.Files;
import java.nio.file.Path;
import java.util.regex.Matcher;
import java.util.regex.Pattern;

/** README.md tells every call, every constant and every test, and the answers of its example are the program's. */
public final class ReadmeTest {
    private static final Pattern EXAMPLE = Pattern.compile("(?s)```java\n(.*?)```");
    private static final Pattern ROW = Pattern.compile("x\\.(\\w+)\\(([-\\d, ]*)\\);\\s+// (-?\\d+|true|false)\\b.*");

    private static int wrong = 0;

    private static void must(boolean holds, String what) {
        if (!holds) {
            wrong++;
            System.out.println("does not hold: " + what);
        }
    }

    private static void tellsTheFace(String readme) throws IllegalAccessException {
        for (Method method : TreeSync.class.getDeclaredMethods()) {
            if (Modifier.isPublic(method.getModifiers())) {
                String parameter = "[a-z]+";
                int count = method.getParameterCount();
                String parameters = count == 0 ? "" : parameter + (", " + parameter).repeat(count - 1);
                String row = "(?m)^\\| `" + method.getName() + "\\(" + parameters + "\\)` \\|";
                must(Pattern.compile(row).matcher(readme).find(), "README.md has a row for " + method);
            }
        }
        for (Field field : TreeSync.class.getDeclaredFields()) {
            if (Modifier.isPublic(field.getModifiers())) {
                String row = "| `" + field.getName() + "` | " + field.getInt(null) + " |";
                must(readme.contains("\n" + row), "README.md has the row " + row);
            }
        }
        must(readme.contains("512 calls"), "README.md tells for how many calls an object is good");
    }

    private static void tellsTheTests(String readme) {
        File[] tests = new File("src/test/java").listFiles();
        must(tests != null && tests.length > 0, "there are tests");
        for (File test : tests == null ? new File[0] : tests) {
            String name = test.getName().replace(".java", "");
            must(readme.contains("\n- `" + name + "`:"), "README.md tells the test " + name);
        }
        must(readme.contains("`.ci/run`"), "README.md tells how the tests are run");
    }

    private static String answerOf(TreeSync x, String name, String arguments) throws ReflectiveOperationException {
        String[] words = arguments.isEmpty() ? new String[0] : arguments.split(", ");
        Class<?>[] types = new Class<?>[words.length];
        Object[] numbers = new Object[words.length];
        for (int i = 0; i < words.length; i++) {
            types[i] = int.class;
            numbers[i] = Integer.valueOf(words[i]);
        }
        return String.valueOf(TreeSync.class.getMethod(name, types).invoke(x, numbers));
    }

    private static void exampleHolds(String readme) throws ReflectiveOperationException {
        Matcher example = EXAMPLE.matcher(readme);
        if (!example.find()) {
            must(false, "README.md has an example");
            return;
        }
        String[] rows = example.group(1).split("\n");
        must(rows[0].equals("TreeSync x = new TreeSync();"), "the example begins with a new object");
        must(rows.length > 1, "the example has calls");
        TreeSync x = new TreeSync();
        for (int i = 1; i < rows.length; i++) {
            Matcher row = ROW.matcher(rows[i]);
            boolean told = row.matches();
            must(told, "a call with its answer: " + rows[i]);
            if (told) {
                String answer = answerOf(x, row.group(1), row.group(2));
                must(answer.equals(row.group(3)), "the program answers " + answer + ": " + rows[i]);
            }
        }
    }

    public static void main(String[] args) throws IOException, ReflectiveOperationException {
        String readme = Files.readString(Path.of("README.md"));
        tellsTheFace(readme);
        tellsTheTests(readme);
        exampleHolds(readme);
        System.out.println(wrong == 0 ? "README.md is as due" : wrong + " things are not as due");
        if (wrong != 0) {
            System.exit(1);
        }
    }
}
