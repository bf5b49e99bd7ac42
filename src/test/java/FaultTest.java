import java.util.ArrayList;
import java.util.List;
import java.util.regex.Matcher;
import java.util.regex.Pattern;

/**
 * FAULT by its words, "the first byte (or the end) at which none such can go on": every row of bytes of some length that
 * can still go on, with each byte behind it, whether or not that can.
 */
public final class FaultTest {
    private static final Pattern WORD = Pattern.compile("[a-z0-9]+|\\?[a-z]|\\*[a-z]|[@(),]|[ \n]+");
    private static final Pattern TERM = Pattern.compile("A\\((?:[APRQ](?:,[APRQ])*)?\\)");
    private static final Pattern DEEP = Pattern.compile("D\\([AP]\\)");
    private static final Pattern LETTERED = Pattern.compile("([?*])([a-z])");
    private static final String[] MORE = {"", "a", "(a)", "a(a)"};
    private static final String[] MORE_LETTERS = {"a", "b", "c", "d"};

    private static final Check CHECK = new Check();

    public static void main(String[] args) {
        walk("", 0, 6, "a1(), \n?*@A");
        for (int what = 1; what <= 2; what++) {
            walk("", what, 5, "ab(), ?*@");
            for (String start : new String[] {"f(*a,", "f(*a,*b,", "f(g(*a),*a,", "f(?a,?b,", "f(?a,g(*b),"}) {
                walk(start, what, start.length() + 3, "ab(),?*@");
            }
        }
        for (String start : new String[] {"@(f(?b,", "f(@(a),", "f(@(?b),*a,", "f(*a,*a,@(", "f(*a,@(g(", "f(@(a) , *b, g("}) {
            walk(start, 1, start.length() + 3, "ab(), ?*@");
        }
        CHECK.finish();
    }

    private static void walk(String start, int what, int most, String alphabet) {
        for (int k = 0; k < alphabet.length(); k++) {
            String bytes = start + alphabet.charAt(k);
            int mark = otherKind(bytes);
            if (mark >= 0) {
                due(bytes, what, mark);
                due(bytes + ")", what, mark);
            } else if (!canGoOn(bytes, what)) {
                due(bytes, what, start.length());
                due(bytes + "a)", what, start.length());
            } else {
                due(bytes, what, isWhole(bytes, what) ? -1 : bytes.length());
                if (bytes.length() < most) {
                    walk(bytes, what, most, alphabet);
                }
            }
        }
    }

    private static void due(String bytes, int what, int due) {
        CHECK.same("fault(" + what + ") of '" + bytes + "'", due, new Tool().fault(what, bytes));
    }

    private static boolean canGoOn(String bytes, int what) {
        boolean wantsLetter = bytes.endsWith("?") || bytes.endsWith("*");
        StringBuilder closing = new StringBuilder();
        for (int k = 0; k <= bytes.length(); k++) {
            for (String more : wantsLetter ? MORE_LETTERS : MORE) {
                if (isWhole(bytes + more + closing, what)) {
                    return true;
                }
            }
            closing.append(')');
        }
        return false;
    }

    /** Each term whose terms are known becomes one sign, again and again, till one sign is left or nothing can. */
    private static boolean isWhole(String bytes, int what) {
        String signs = signs(bytes);
        if (signs == null || otherKind(bytes) >= 0 || !isAllowed(signs, what)) {
            return false;
        }
        String before = "";
        while (!before.equals(signs)) {
            before = signs;
            // Q has a row within it, which must not be within deep.
            signs = TERM.matcher(signs).replaceAll(term -> hasRow(term.group()) ? "Q" : "P");
            signs = DEEP.matcher(signs).replaceAll("P");
        }
        return signs.equals("A") || signs.equals("P") || signs.equals("Q");
    }

    private static boolean hasRow(String signs) {
        return signs.indexOf('R') >= 0 || signs.indexOf('Q') >= 0;
    }

    private static String signs(String bytes) {
        StringBuilder signs = new StringBuilder();
        Matcher word = WORD.matcher(bytes);
        int read = 0;
        while (read < bytes.length() && word.find(read) && word.start() == read) {
            signs.append(signOf(word.group()));
            read = word.end();
        }
        return read == bytes.length() ? signs.toString() : null;
    }

    private static String signOf(String word) {
        switch (word.charAt(0)) {
            case ' ':
            case '\n':
                return "";
            case '?':
                return "P";
            case '*':
                return "R";
            case '@':
                return "D";
            case '(':
            case ')':
            case ',':
                return word;
            default:
                return "A";
        }
    }

    private static boolean isAllowed(String signs, int what) {
        int holes = count(signs, 'P');
        int rows = count(signs, 'R');
        int deeps = count(signs, 'D');
        return what == 2 ? deeps == 0 : what == 1 ? rows <= 2 && deeps <= 1 : holes + rows + deeps == 0;
    }

    private static int count(String signs, char sign) {
        int many = 0;
        for (int k = 0; k < signs.length(); k++) {
            many += signs.charAt(k) == sign ? 1 : 0;
        }
        return many;
    }

    /** Where the ? or * is whose letter is of the other kind already, or -1. */
    private static int otherKind(String bytes) {
        List<String> known = new ArrayList<>();
        Matcher lettered = LETTERED.matcher(bytes);
        while (lettered.find()) {
            String other = (lettered.group(1).equals("?") ? "*" : "?") + lettered.group(2);
            if (known.contains(other)) {
                return lettered.start();
            }
            known.add(lettered.group());
        }
        return -1;
    }
}
