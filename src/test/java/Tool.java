import java.util.NoSuchElementException;

/** A ShapeTool that is fed with strings. */
final class Tool {
    final ShapeTool it = new ShapeTool();

    static int[] numbers(String bytes, int from) {
        int[] five = new int[5];
        for (int k = 0; k < 20; k++) {
            int c = from + k < bytes.length() ? bytes.charAt(from + k) & 255 : 0;
            five[k / 4] |= c << 24 - 8 * (k % 4);
        }
        return five;
    }

    int feed(String bytes) {
        int answer = it.count(3);
        for (int from = 0; from < bytes.length(); from += 20) {
            int[] n = numbers(bytes, from);
            answer = it.feed(n[0], n[1], n[2], n[3], n[4]);
        }
        return answer;
    }

    int fault(int what, String bytes) {
        it.end(0);
        feed(bytes);
        return it.fault(what);
    }

    boolean take(int what, String bytes) {
        it.end(0);
        feed(bytes);
        return it.take(what);
    }

    Tool with(String text, String pattern, String template) {
        if (!take(0, text) || !take(1, pattern) || !take(2, template)) {
            throw new IllegalStateException("not taken: " + text + " " + pattern + " " + template);
        }
        return this;
    }

    String text() {
        StringBuilder read = new StringBuilder();
        for (int i = 0; i < it.count(0); i++) {
            read.append((char) it.at(i));
        }
        return read.toString();
    }

    String matches() {
        StringBuilder told = new StringBuilder();
        for (int i = 0; i < it.matches(); i++) {
            told.append(i == 0 ? "" : " ").append(it.match(i));
        }
        return told.toString();
    }

    String takes(int rule) {
        StringBuilder told = new StringBuilder();
        for (int i = 0; i < it.taken(rule); i++) {
            told.append(i == 0 ? "" : " ").append(it.takes(rule, i));
        }
        return told.toString();
    }

    String at(int i) {
        try {
            return String.valueOf(it.at(i));
        } catch (NoSuchElementException e) {
            return "throws";
        }
    }
}
