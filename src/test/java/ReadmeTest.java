import java.io.IOException;
import java.lang.reflect.Field;
import java.lang.reflect.Method;
import java.lang.reflect.Modifier;
import java.nio.file.DirectoryStream;
import java.nio.file.Files;
import java.nio.file.Path;
import java.util.ArrayList;
import java.util.Arrays;
import java.util.List;
import java.util.Set;
import java.util.TreeSet;
import java.util.regex.Matcher;
import java.util.regex.Pattern;

/** README.md tells the truth: each call that it shows is asked anew, and its way to run the tests is looked at. */
public final class ReadmeTest {
    private static final Pattern MADE = Pattern.compile("PaperBoxes (\\w+) = new PaperBoxes\\(\\);");
    private static final Pattern CALL =
            Pattern.compile("(\\w+)\\.(\\w+)\\(([^/]*)\\);\\s*// (-?\\d+|PaperBoxes\\.[A-Z]+)(: .+)?");
    private static final int GOOD_FOR = 512;
    private static int wrong = 0;

    private static void must(boolean holds, String what) {
        if (!holds) {
            wrong++;
            System.out.println(what);
        }
    }

    public static void main(String[] args) throws IOException, ReflectiveOperationException {
        String text = Files.readString(Path.of("README.md"));
        examples(text);
        constants(text);
        wayToRun(text);
        testsNamed(text);
        System.out.println(wrong == 0 ? "README.md is so" : wrong + " faults");
        if (wrong != 0) {
            System.exit(1);
        }
    }

    private static void examples(String text) throws ReflectiveOperationException {
        Set<String> shown = new TreeSet<>();
        String name = null;
        PaperBoxes object = null;
        int calls = 0;
        for (String line : codeLines(text)) {
            Matcher made = MADE.matcher(line);
            Matcher call = CALL.matcher(line);
            if (made.matches()) {
                name = made.group(1);
                object = new PaperBoxes();
                calls = 0;
            } else if (call.matches() && call.group(1).equals(name)) {
                calls++;
                shown.add(call.group(2));
                int answer = ask(object, call.group(2), numbers(call.group(3)));
                must(answer == told(call.group(4)), line + " -- the answer is " + answer);
            } else {
                must(false, "no call with its answer: " + line);
            }
            must(calls <= GOOD_FOR, "more calls than an object is good for");
        }
        must(shown.equals(publicCalls()), "the calls that README.md shows are " + shown);
    }

    private static List<String> codeLines(String text) {
        List<String> lines = new ArrayList<>();
        Matcher block = Pattern.compile("(?s)```java\n(.*?)```").matcher(text);
        while (block.find()) {
            for (String line : block.group(1).split("\n")) {
                if (!line.isBlank()) {
                    lines.add(line.trim());
                }
            }
        }
        return lines;
    }

    private static Object[] numbers(String told) {
        if (told.isBlank()) {
            return new Object[0];
        }
        String[] parts = told.split(",");
        Object[] numbers = new Object[parts.length];
        for (int i = 0; i < parts.length; i++) {
            String part = parts[i].trim();
            // a sign becomes its code, as in a call that is written out
            numbers[i] = part.matches("'.'") ? (int) part.charAt(1) : Integer.parseInt(part);
        }
        return numbers;
    }

    private static int ask(PaperBoxes object, String name, Object[] numbers) throws ReflectiveOperationException {
        Class<?>[] types = new Class<?>[numbers.length];
        Arrays.fill(types, int.class);
        return (Integer) PaperBoxes.class.getMethod(name, types).invoke(object, numbers);
    }

    private static int told(String answer) throws ReflectiveOperationException {
        String ahead = "PaperBoxes.";
        if (!answer.startsWith(ahead)) {
            return Integer.parseInt(answer);
        }
        return PaperBoxes.class.getField(answer.substring(ahead.length())).getInt(null);
    }

    private static Set<String> publicCalls() {
        Set<String> names = new TreeSet<>();
        for (Method method : PaperBoxes.class.getDeclaredMethods()) {
            if (Modifier.isPublic(method.getModifiers())) {
                names.add(method.getName());
            }
        }
        return names;
    }

    private static void constants(String text) throws ReflectiveOperationException {
        Set<String> rows = new TreeSet<>();
        Matcher row = Pattern.compile("(?m)^\\| `PaperBoxes\\.([A-Z]+)` \\| (-\\d) \\|").matcher(text);
        while (row.find()) {
            rows.add(row.group(1) + row.group(2));
        }
        Set<String> due = new TreeSet<>();
        for (Field field : PaperBoxes.class.getFields()) {
            due.add(field.getName() + field.getInt(null));
        }
        must(rows.equals(due), "the constants that README.md tells are " + rows);
    }

    private static void wayToRun(String text) throws IOException {
        int at = text.indexOf("\n## Tests\n");
        must(at >= 0, "README.md has a part on the tests");
        Matcher command = Pattern.compile("(?m)^    (\\S.*)$").matcher(text.substring(Math.max(at, 0)));
        must(command.find() && command.group(1).equals(".ci/run"), "the way to run the tests is .ci/run");
        must(!command.find(), "there is one way to run the tests");
        Path run = Path.of(".ci/run");
        must(Files.isExecutable(run), ".ci/run can be run");
        String script = Files.readString(run);
        must(script.contains("src/test/java/*.java"), ".ci/run runs the project's own tests");
        must(script.contains("../shared/tests") && script.contains("\"$shared\"/*.java"), ".ci/run runs the shared tests");
    }

    private static void testsNamed(String text) throws IOException {
        Set<String> named = new TreeSet<>();
        Matcher name = Pattern.compile("(?m)^- `(\\w+)`: ").matcher(text);
        while (name.find()) {
            named.add(name.group(1));
        }
        Set<String> there = new TreeSet<>();
        try (DirectoryStream<Path> files = Files.newDirectoryStream(Path.of("src/test/java"), "*.java")) {
            for (Path file : files) {
                there.add(file.getFileName().toString().replace(".java", ""));
            }
        }
        must(named.equals(there), "the tests that README.md names are " + named);
    }
}
