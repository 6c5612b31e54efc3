import java.io.IOException;
import java.lang.reflect.Method;
import java.nio.file.Files;
import java.nio.file.Path;
import java.util.ArrayList;
import java.util.List;
import java.util.regex.Matcher;
import java.util.regex.Pattern;

/** README.md keeps to the class and to the document: the calls that it shows, and its table of all calls. */
final class ReadmeTest {
    private static final Pattern BLOCK = Pattern.compile("(?s)```java\n(.*?)```");
    private static final Pattern SHOWN = Pattern.compile("x\\.(\\w+)\\((.*?)\\);\\s*// (-?\\d+)(:.*)?");
    private static final Pattern TABLED = Pattern.compile("\\| `(\\w+)\\((.*?)\\)` \\| .* \\|([-0-9, ]*)\\|");
    private static final Pattern PROMISED = Pattern.compile("## Promise \\d+: .*\n\n`int (\\w+)\\((.*?)\\)`: (.*)");

    private final Due due = new Due();
    private StiffFrames x = new StiffFrames();

    private static Method method(String name) {
        for (Method method : StiffFrames.class.getMethods()) {
            if (method.getName().equals(name)) {
                return method;
            }
        }
        throw new IllegalArgumentException(name + " is no call of the class");
    }

    private int call(String name, String arguments) throws ReflectiveOperationException {
        List<Object> values = new ArrayList<>();
        for (String argument : arguments.isEmpty() ? new String[0] : arguments.split(", ")) {
            boolean isSwitch = argument.equals("true") || argument.equals("false");
            values.add(isSwitch ? (Object) Boolean.valueOf(argument) : Integer.valueOf(argument));
        }
        return (Integer) method(name).invoke(x, values.toArray());
    }

    private void shown(String readme) throws ReflectiveOperationException {
        Matcher blocks = BLOCK.matcher(readme);
        int calls = 0;
        while (blocks.find()) {
            for (String line : blocks.group(1).split("\n")) {
                Matcher call = SHOWN.matcher(line);
                if (line.equals("StiffFrames x = new StiffFrames();")) {
                    x = new StiffFrames();
                } else if (call.matches()) {
                    due.same("README.md: " + line, call(call.group(1), call.group(2)), Integer.parseInt(call.group(3)));
                    calls++;
                } else {
                    due.holds("README.md: a call with its answer: " + line, false);
                }
            }
        }
        due.holds("README.md shows calls", calls > 0);
    }

    private static List<String> tabled(String readme) {
        List<String> rows = new ArrayList<>();
        Matcher row = TABLED.matcher(readme);
        while (row.find()) {
            rows.add(row.group(1) + "(" + row.group(2) + ")" + row.group(3).replace(" ", ""));
        }
        return rows;
    }

    /** The document names refusals as numbers below 0; -9 is none, and count's text only speaks of them. */
    private static List<String> promised(String document) {
        List<String> rows = new ArrayList<>();
        Matcher promise = PROMISED.matcher(document);
        while (promise.find()) {
            List<String> refusals = new ArrayList<>();
            Matcher number = Pattern.compile("-[1-8]").matcher(promise.group(1).equals("count") ? "" : promise.group(3));
            while (number.find()) {
                refusals.add(number.group());
            }
            String names = promise.group(2).replaceAll("(int|boolean) ", "");
            rows.add(promise.group(1) + "(" + names + ")" + String.join(",", refusals));
        }
        return rows;
    }

    private void table(String readme, String document) {
        List<String> rows = tabled(readme);
        List<String> promises = promised(document);
        due.same("calls that the document promises", promises.size(), 32);
        due.same("rows of README.md's table", rows.size(), promises.size());
        for (String promise : promises) {
            due.holds("README.md tells " + promise, rows.contains(promise));
        }
    }

    private void tests(String readme) throws IOException {
        try (var files = Files.newDirectoryStream(Path.of("src/test/java"), "*Test.java")) {
            for (Path file : files) {
                String name = file.getFileName().toString().replace(".java", "");
                due.holds("README.md tells what " + name + " does", readme.contains("- `" + name + "`: "));
            }
        }
    }

    public static void main(String[] args) throws IOException, ReflectiveOperationException {
        String readme = Files.readString(Path.of("README.md"));
        ReadmeTest test = new ReadmeTest();
        test.shown(readme);
        test.table(readme, Files.readString(Path.of("../shared/DOC.md")));
        test.tests(readme);
        test.due.end();
    }
}
