import java.io.IOException;
import java.lang.reflect.Method;
import java.lang.reflect.Modifier;
import java.nio.file.Files;
import java.nio.file.Path;
import java.util.HashMap;
import java.util.List;
import java.util.Map;
import java.util.regex.Matcher;
import java.util.regex.Pattern;

/** README.md's examples are played line by line: each call has to answer the number that is written behind it. */
public final class ReadmeTest {
    private static final Check CHECK = new Check();
    private static final Pattern LETTERS = Pattern.compile("for \\(char c : \"([^\"]*)\"\\.toCharArray\\(\\)\\) \\{");
    private static final Pattern CALL = Pattern.compile("x\\.(\\w+)\\(([-0-9, ]*)\\); +// (-?\\d+)\\b.*");
    private static final List<String> OF_LETTERS = List.of("    x.letter(c);", "}");

    private final Map<String, Method> face = new HashMap<>();
    private NeverCross x;
    private int answers;

    private ReadmeTest() {
        for (Method method : NeverCross.class.getDeclaredMethods()) {
            if (Modifier.isPublic(method.getModifiers())) {
                face.put(method.getName(), method);
            }
        }
    }

    public static void main(String[] args) throws IOException, ReflectiveOperationException {
        String text = Files.readString(Path.of("README.md"));
        ReadmeTest test = new ReadmeTest();
        boolean inside = false;
        for (String line : text.split("\n")) {
            if (line.startsWith("```")) {
                inside = line.equals("```java");
            } else if (inside) {
                test.play(line);
            }
        }
        CHECK.yes("examples were played", test.answers >= 30);
        test.tableOf(text);
        CHECK.end("ReadmeTest");
    }

    private void play(String line) throws ReflectiveOperationException {
        Matcher letters = LETTERS.matcher(line);
        Matcher call = CALL.matcher(line);
        if (line.equals("NeverCross x = new NeverCross();")) {
            x = new NeverCross();
        } else if (letters.matches()) {
            for (char c : letters.group(1).toCharArray()) {
                x.letter(c);
            }
        } else if (call.matches() && face.containsKey(call.group(1))) {
            answers++;
            int got = (Integer) face.get(call.group(1)).invoke(x, arguments(call.group(2)));
            CHECK.due(line, got, Integer.parseInt(call.group(3)));
        } else {
            CHECK.yes("a line that is no call: " + line, OF_LETTERS.contains(line));
        }
    }

    private static Object[] arguments(String text) {
        if (text.isEmpty()) {
            return new Object[0];
        }
        String[] parts = text.split(", ");
        Object[] numbers = new Object[parts.length];
        for (int i = 0; i < parts.length; i++) {
            numbers[i] = Integer.parseInt(parts[i]);
        }
        return numbers;
    }

    /** A row for each call, with as many arguments, and no row for another. */
    private void tableOf(String text) {
        Matcher row = Pattern.compile("(?m)^\\| `(\\w+)\\(([^)]*)\\)` \\|").matcher(text);
        int rows = 0;
        while (row.find()) {
            rows++;
            Method method = face.get(row.group(1));
            int arguments = row.group(2).isEmpty() ? 0 : row.group(2).split(", ").length;
            CHECK.yes("the face has " + row.group(), method != null && method.getParameterCount() == arguments);
        }
        CHECK.due("rows of the table", rows, face.size());
    }
}
