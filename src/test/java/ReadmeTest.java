import java.io.IOException;
import java.lang.reflect.InvocationTargetException;
import java.lang.reflect.Method;
import java.nio.file.Files;
import java.nio.file.Path;
import java.util.List;
import java.util.regex.Matcher;
import java.util.regex.Pattern;

/** Each row of README.md that tells a call with its answer, on one object, from the first row to the last. */
public final class ReadmeTest {
    private static final Pattern ROW = Pattern.compile("gardens\\.(\\w+)\\((.*)\\); *// (throws \\w+|[-.0-9]+)(:.*)?");
    private static final int LEAST_ROWS = 30;

    private final Check check = new Check();
    private final BentGardens gardens = new BentGardens();
    private int rows = 0;

    public static void main(String[] args) throws IOException {
        ReadmeTest test = new ReadmeTest();
        for (String row : Files.readAllLines(Path.of("README.md"))) {
            test.read(row);
        }
        test.check.due("enough rows are found", 1, test.rows >= LEAST_ROWS ? 1 : 0);
        test.check.end();
    }

    private void read(String row) {
        if (!row.startsWith("gardens.")) {
            return;
        }
        rows++;
        Matcher parts = ROW.matcher(row);
        if (parts.matches()) {
            check.dueText(row, parts.group(3), answer(parts.group(1), parts.group(2)));
        } else {
            check.dueText(row, "a call with its answer", "another row");
        }
    }

    private String answer(String name, String arguments) {
        List<String> words = arguments.isEmpty() ? List.of() : List.of(arguments.split(", "));
        for (Method method : BentGardens.class.getMethods()) {
            if (method.getName().equals(name) && method.getParameterCount() == words.size()) {
                return called(method, words.stream().map(ReadmeTest::value).toArray());
            }
        }
        return "no such call";
    }

    private static Object value(String word) {
        if (word.startsWith("'")) {
            return (int) word.charAt(1);
        }
        if (word.equals("true") || word.equals("false")) {
            return Boolean.valueOf(word);
        }
        return Integer.valueOf(word);
    }

    private String called(Method method, Object[] arguments) {
        try {
            return String.valueOf(method.invoke(gardens, arguments));
        } catch (InvocationTargetException thrown) {
            return "throws " + thrown.getCause().getClass().getSimpleName();
        } catch (IllegalAccessException | IllegalArgumentException wrong) {
            return "no such call: " + wrong;
        }
    }
}
