import java.io.IOException;
import java.lang.reflect.InvocationTargetException;
import java.lang.reflect.Method;
import java.nio.file.Files;
import java.nio.file.Path;
import java.util.regex.Matcher;
import java.util.regex.Pattern;

/** README.md's example, call by call, each with the answer that stands behind it; run from the project's folder. */
public final class ReadmeTest {
    private static final Due due = new Due();

    public static void main(String[] args) throws IOException, ReflectiveOperationException {
        String readme = Files.readString(Path.of("README.md"));
        example(readme);
        refusals(readme);
        due.end("ReadmeTest");
    }

    private static String first(String readme, String pattern) {
        Matcher m = Pattern.compile(pattern, Pattern.DOTALL).matcher(readme);
        boolean there = m.find();
        due.is("there: " + pattern, there ? 1 : 0, 1);
        return there ? m.group(1) : "";
    }

    private static void example(String readme) throws ReflectiveOperationException {
        String example = first(readme, "```java\n(.*?)```");
        PalmTastes x = new PalmTastes();
        String text = first(example, "String text = \"([^\"]*)\";");
        for (char c : text.toCharArray()) x.feed(c, 1);
        int calls = 0;
        for (String line : example.split("\n")) {
            Matcher m = Pattern.compile("x\\.(\\w+)\\(([-0-9, ]*)\\); *// (-?\\d+): .*").matcher(line);
            if (!m.matches()) continue;
            calls++;
            due.is(line, call(x, m.group(1), m.group(2)), Integer.parseInt(m.group(3)));
        }
        // All lines but those that make the object, tell the text and feed it.
        due.is("calls in the example", calls, example.split("\n").length - 3);
        due.is("are some", calls > 9 ? 1 : 0, 1);
    }

    private static int call(PalmTastes x, String name, String numbers) throws IllegalAccessException, InvocationTargetException {
        String[] told = numbers.isBlank() ? new String[0] : numbers.split(", *");
        Object[] of = new Object[told.length];
        for (int i = 0; i < told.length; i++) of[i] = Integer.parseInt(told[i].trim());
        for (Method m : PalmTastes.class.getMethods()) {
            if (m.getName().equals(name) && m.getParameterCount() == of.length) return (Integer) m.invoke(x, of);
        }
        due.is("a call " + name, 0, 1);
        return 0;
    }

    private static void refusals(String readme) {
        String table = first(readme, "\n(\\| answer \\|.*?)\n\n");
        String[] numbers = {"NONE", "BAD", "STATE", "FULL"};
        int[] values = {PalmTastes.NONE, PalmTastes.BAD, PalmTastes.STATE, PalmTastes.FULL};
        for (int i = 0; i < 4; i++) {
            due.is("the number of " + numbers[i], table.contains("| " + values[i] + " | `" + numbers[i] + "` |") ? 1 : 0, 1);
        }
        PalmTastes x = Due.on("wall 0 0 0 0 0;reader plain 0 0 0 0 0;");
        x.row(0, 0, 1);
        x.row(1, 1, 1);
        found(table, "NULL", x.set(2, 0, 0), x.status());
        found(table, "PLACE", x.set(0, 1, 0), x.status());
        found(table, "KIND", x.as(0, 2), x.status());
        found(table, "SIZE", x.row(0, 0, -1), x.status());
        found(table, "STORE", x.copy(0, 0, 1, 0, 1), x.status());
    }

    private static void found(String table, String name, int answer, int status) {
        boolean told = Pattern.compile("\\| " + answer + " \\| " + name + " \\|[^\n]*`status\\(\\)` is " + status + " \\|").matcher(table).find();
        due.is(name + " is " + answer + ", " + status, told ? 1 : 0, 1);
    }
}
