import java.util.NoSuchElementException;

/** A ShapeTool that is fed with strings. */
final class Tool {
    final ShapeTool it = new ShapeTool();

    static int[] numbers(String bytes, int from) {
        int[] five = new int[5];
        for (int k = 0; k < 20; k++) {
            int c = from + k < bytes.length() ? bytes.charAt(from + k) & 255 : 0;
            five[k / 4] |= c << 24 - 8 * (k % 4);
        }
        return five;
    }

    int feed(String bytes) {
        if (bytes.isEmpty()) {
            return it.count(3);
        }
        int answer = 0;
        for (int from = 0; from < bytes.length(); from += 20) {
            int[] n = numbers(bytes, from);
            answer = it.feed(n[0], n[1], n[2], n[3], n[4]);
        }
        return answer;
    }

    int fault(int what, String bytes) {
        it.end(0);
        feed(bytes);
        return it.fault(what);
    }

    boolean take(int what, String bytes) {
        it.end(0);
        feed(bytes);
        return it.take(what);
    }

    Tool with(String text, String pattern, String template) {
        if (!take(0, text) || !take(1, pattern) || !take(2, template)) {
            throw new IllegalStateException("not taken: " + text + " " + pattern + " " + template);
        }
        return this;
    }

    String text() {
        StringBuilder read = new StringBuilder();
        int bytes = it.count(0);
        for (int i = 0; i < bytes; i++) {
            read.append((char) it.at(i));
        }
        return read.toString();
    }

    /** Of each node its four numbers, as in "0-8 2 of -1". */
    String spans() {
        StringBuilder told = new StringBuilder();
        int nodes = it.nodes();
        for (int node = 0; node < nodes; node++) {
            told.append(node == 0 ? "" : "; ").append(it.node(node, 0)).append('-').append(it.node(node, 1));
            told.append(' ').append(it.node(node, 2)).append(" of ").append(it.node(node, 3));
        }
        return told.toString();
    }

    String matches() {
        StringBuilder told = new StringBuilder();
        int matches = it.matches();
        for (int i = 0; i < matches; i++) {
            told.append(i == 0 ? "" : " ").append(it.match(i));
        }
        return told.toString();
    }

    String takes(int rule) {
        StringBuilder told = new StringBuilder();
        int taken = it.taken(rule);
        for (int i = 0; i < taken; i++) {
            told.append(i == 0 ? "" : " ").append(it.takes(rule, i));
        }
        return told.toString();
    }

    /** What the letters are as a node is matched: of each its first node and how many, as in "a1x1 b-1x0". */
    String letters(int node) {
        StringBuilder told = new StringBuilder();
        for (int letter = 0; letter < 26; letter++) {
            int many = it.row(node, letter);
            if (many != -1) {
                told.append(told.length() == 0 ? "" : " ").append((char) ('a' + letter));
                told.append(it.hole(node, letter)).append('x').append(many);
            }
        }
        return told.toString();
    }

    String at(int i) {
        try {
            return String.valueOf(it.at(i));
        } catch (NoSuchElementException e) {
            return "throws";
        }
    }

    /** All that can be asked, and then what changes the object: two of a kind tell the same. */
    String everything() {
        StringBuilder told = new StringBuilder(text());
        for (int what = 0; what < 5; what++) {
            told.append(" count ").append(it.count(what));
        }
        for (int what = 0; what < 3; what++) {
            told.append(" fault ").append(it.fault(what)).append(" takes ").append(takes(what));
        }
        told.append(" nodes ").append(it.nodes()).append(" matches ").append(matches());
        told.append(" letters ").append(letters(0));
        told.append(" put ").append(it.put(0)).append(' ').append(text());
        for (int k = 0; k < 12 && it.back(); k++) {
            told.append(" back ").append(text());
        }
        for (int one = 0; one < 4; one++) {
            for (int other = 0; other < one; other++) {
                told.append(" differ ").append(it.differ(one, other, false));
            }
        }
        return told.append(" taken ").append(it.take(0)).append(' ').append(text()).toString();
    }
}
