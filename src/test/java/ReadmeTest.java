import java.lang.reflect.InvocationTargetException;
import java.lang.reflect.Method;
import java.nio.file.Files;
import java.nio.file.Path;
import java.util.ArrayList;
import java.util.List;
import java.util.regex.Matcher;
import java.util.regex.Pattern;

/** Does the calls that README.md shows, read from it, and holds what it says of them against the answers. */
public final class ReadmeTest {
    private static final String MAKING = "ShapeTool tool = new ShapeTool();";
    private static final Pattern CALL_LINE = Pattern.compile("tool\\.(\\w+\\([^)]*\\)); +// ([^:]+?)(?:: .*)?");
    private static final Pattern CALL = Pattern.compile("(\\w+)\\(([^)]*)\\)");
    private static final Pattern TEXT_SAID = Pattern.compile("the text is (.+) (?:now|again)$");
    private static final Pattern BYTES_SAID = Pattern.compile("// \\d+: (\\S.*?)(?: is on the tape)?$");
    // So that a README whose form is not seen any more does not pass as one that holds.
    private static final int LEAST_CALLS = 28;
    private static final int LEAST_FAULTS = 12;
    private static final int LEAST_PUTS = 12;

    private static final Check CHECK = new Check();
    private static int calls = 0;
    private static int faults = 0;
    private static int puts = 0;

    public static void main(String[] args) throws Exception {
        List<String> lines = Files.readAllLines(Path.of("README.md"));
        Tool tool = new Tool();
        boolean inJava = false;
        for (String line : lines) {
            if (line.startsWith("```")) {
                inJava = line.equals("```java");
            } else if (inJava && line.equals(MAKING)) {
                tool = new Tool();
            } else if (inJava) {
                callLine(tool, line);
            } else if (line.startsWith("| `")) {
                tableRow(line);
            }
        }
        CHECK.same("calls in java blocks", true, calls >= LEAST_CALLS);
        CHECK.same("rows of faults", true, faults >= LEAST_FAULTS);
        CHECK.same("rows of puttings", true, puts >= LEAST_PUTS);
        everyCallIsNamed(String.join("\n", lines));
        everyTestIsNamed(String.join("\n", lines));
        CHECK.finish();
    }

    private static void callLine(Tool tool, String line) throws Exception {
        Matcher shown = CALL_LINE.matcher(line);
        CHECK.same("README's line is a call with its answer: " + line, true, shown.matches());
        if (!shown.matches()) {
            return;
        }
        calls++;
        if (shown.group(1).startsWith("feed(")) {
            fedBytes(line, shown.group(1));
        }
        CHECK.same("README: " + line, shown.group(2), answer(tool, shown.group(1)));
        Matcher text = TEXT_SAID.matcher(line);
        if (text.find()) {
            CHECK.same("README: the text after " + line, text.group(1), tool.text());
        }
    }

    /** The numbers of a feed are the bytes that its remark tells: the text that they make is those bytes. */
    private static void fedBytes(String line, String call) {
        Matcher said = BYTES_SAID.matcher(line);
        CHECK.same("README tells the bytes fed: " + line, true, said.find());
        Object[] numbers = arguments(call.substring("feed(".length(), call.length() - 1));
        int[] due = Tool.numbers(said.group(1), 0);
        for (int k = 0; k < due.length; k++) {
            CHECK.same("README: number " + k + " of " + line, due[k], numbers[k]);
        }
    }

    private static void tableRow(String line) throws Exception {
        List<String> cells = new ArrayList<>();
        for (String cell : line.substring(1, line.length() - 1).split("\\|")) {
            cells.add(cell.trim().replaceAll("^`|`$", ""));
        }
        if (cells.size() == 3) {
            faults++;
            Tool tool = new Tool();
            tool.feed(cells.get(0));
            CHECK.same("README: " + line, cells.get(2), answer(tool, cells.get(1)));
        } else if (cells.size() == 6) {
            puts++;
            Tool tool = new Tool().with(cells.get(0), cells.get(1), cells.get(2));
            CHECK.same("README: " + line, cells.get(4), answer(tool, cells.get(3)));
            CHECK.same("README: the text then of " + line, cells.get(5), tool.text());
        }
    }

    private static String answer(Tool tool, String call) throws Exception {
        Matcher parts = CALL.matcher(call);
        CHECK.same("README: a call " + call, true, parts.matches());
        Object[] given = arguments(parts.group(2));
        for (Method method : ShapeTool.class.getDeclaredMethods()) {
            if (method.getName().equals(parts.group(1)) && method.getParameterCount() == given.length) {
                try {
                    return String.valueOf(method.invoke(tool.it, given));
                } catch (InvocationTargetException e) {
                    return "throws " + e.getCause().getClass().getSimpleName();
                }
            }
        }
        return "no such call";
    }

    private static Object[] arguments(String written) {
        if (written.isEmpty()) {
            return new Object[0];
        }
        String[] words = written.split(", ");
        Object[] given = new Object[words.length];
        for (int k = 0; k < words.length; k++) {
            boolean isTruth = words[k].equals("true") || words[k].equals("false");
            given[k] = isTruth ? (Object) Boolean.valueOf(words[k]) : (Object) Integer.decode(words[k]);
        }
        return given;
    }

    private static void everyCallIsNamed(String readme) {
        for (Method method : ShapeTool.class.getMethods()) {
            if (method.getDeclaringClass() == ShapeTool.class) {
                CHECK.same("README names " + method.getName(), true, readme.contains("`" + method.getName() + "("));
            }
        }
    }

    private static void everyTestIsNamed(String readme) throws Exception {
        try (var files = Files.list(Path.of("src/test/java"))) {
            for (Path file : files.toList()) {
                String name = file.getFileName().toString();
                if (name.endsWith("Test.java")) {
                    String test = "`" + name.replace(".java", "") + "`";
                    CHECK.same("README names " + test, true, readme.contains(test));
                }
            }
        }
    }
}
