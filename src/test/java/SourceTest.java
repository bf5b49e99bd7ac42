import java.nio.file.Files;
import java.nio.file.Path;
import java.util.List;
import java.util.regex.Matcher;
import java.util.regex.Pattern;

/** What LANGUAGE.md rules out and can be seen in the source; it runs in the project's folder. */
public final class SourceTest {
    private static final int MOST_LINES = 60;
    private static final int MOST_PARAMETERS = 7;
    private static final int MOST_CLASSES = 12;
    private static final Pattern METHOD =
            Pattern.compile("^ +(?:public |private |static |final )*[\\w\\[\\]]+ (\\w+)\\(([^)]*)\\)(?: throws \\w+)? \\{$");

    private static final String[] RULED_OUT = {
        "\\bcatch\\b", "\\btry\\b", "\\bfinally\\b", "->", "::", "\\bsynchronized\\b", "\\bassert\\b", "\\bpackage\\b",
        "\\bstatic \\{", "\\bvar\\b", "\\bHashMap\\b", "Exact\\b", "\\bprotected\\b", "\\bhashCode\\b", "\\btoString\\b",
        "\\bSystem\\.(?!arraycopy)", "\\bThread\\b", "\\bRandom\\b", "\\bdouble\\b", "\\bfloat\\b", "%"
    };

    public static void main(String[] args) throws Exception {
        Check check = new Check();
        List<String> lines = Files.readAllLines(Path.of("src/main/java/ShapeTool.java"));
        int classes = 0;
        int opened = -1;
        String name = "";
        for (int i = 0; i < lines.size(); i++) {
            String line = lines.get(i);
            String code = line.replaceAll("//.*|^\\s*/\\*\\*.*", "").replaceAll("\"[^\"]*\"", "\"\"");
            for (String out : RULED_OUT) {
                check.same("line " + (i + 1) + " has " + out, false, Pattern.compile(out).matcher(code).find());
            }
            if (line.startsWith("import ")) {
                check.same("an import", "import java.util.NoSuchElementException;", line);
            }
            classes += code.matches(".*\\bclass \\w+.*") ? 1 : 0;
            Matcher method = METHOD.matcher(code);
            if (method.matches()) {
                name = method.group(1);
                opened = i;
                check.same(name + " has few parameters", true, method.group(2).split(",").length <= MOST_PARAMETERS);
            }
            if (opened >= 0 && line.equals(lines.get(opened).replaceAll("\\S.*", "") + "}")) {
                check.same(name + " is short", true, i - opened < MOST_LINES);
                opened = -1;
            }
        }
        check.same("few classes", true, classes <= MOST_CLASSES);
        check.finish();
    }
}
