import java.util.ArrayDeque;
import java.util.ArrayList;
import java.util.Arrays;
import java.util.Deque;
import java.util.HashMap;
import java.util.HashSet;
import java.util.List;
import java.util.Map;
import java.util.NoSuchElementException;
import java.util.Set;

/** The document's words as a second program, with strings, lists and recursion, to hold ShapeTool against. */
final class Model {
    /** A TERM, HOLE, ROW or DEEP; what a text is made of, too. */
    static final class Piece {
        final char kind;
        final String name;
        int from;
        int behind;
        int number;
        Piece parent;
        List<Piece> terms = null;

        Piece(char kind, String name) {
            this.kind = kind;
            this.name = name;
        }

        List<Piece> all() {
            List<Piece> found = new ArrayList<>();
            found.add(this);
            if (terms != null) {
                for (Piece term : terms) {
                    found.addAll(term.all());
                }
            }
            return found;
        }

        boolean isWithin(Piece other) {
            return parent != null && (parent == other || parent.isWithin(other));
        }

        String shape() {
            if (terms == null) {
                return kind + name;
            }
            StringBuilder told = new StringBuilder().append(kind).append(name).append('(');
            for (Piece term : terms) {
                told.append(term.shape()).append(',');
            }
            return told.append(')').toString();
        }
    }

    private static final class Fault extends RuntimeException {
        private static final long serialVersionUID = 1L;
        final int place;

        Fault(int place) {
            super("fault", null, false, false);
            this.place = place;
        }
    }

    /** Reads by recursion, one method for each word of the grammar. */
    static final class Parser {
        private final String bytes;
        private final int what;
        private int pos = 0;
        private int depth = 0;
        private int rows = 0;
        private int deeps = 0;
        private boolean inDeep = false;
        private final Map<Character, Character> kinds = new HashMap<>();

        Parser(String bytes, int what) {
            this.bytes = bytes;
            this.what = what;
        }

        Piece whole() {
            Piece piece = piece(false);
            blanks();
            if (pos < bytes.length()) {
                throw new Fault(pos);
            }
            int number = 0;
            for (Piece each : piece.all()) {
                each.number = number++;
            }
            return piece;
        }

        private void blanks() {
            while (peek() == ' ' || peek() == '\n') {
                pos++;
            }
        }

        private int peek() {
            return pos < bytes.length() ? bytes.charAt(pos) : -1;
        }

        private static boolean small(int c) {
            return "abcdefghijklmnopqrstuvwxyz".indexOf(c) >= 0;
        }

        private static boolean atomic(int c) {
            return small(c) || "0123456789".indexOf(c) >= 0;
        }

        private Piece piece(boolean rowToo) {
            blanks();
            int c = peek();
            Piece made;
            int from = pos;
            if (atomic(c)) {
                made = term();
            } else if (c == '?' && what != 0) {
                made = lettered('?');
            } else if (c == '*' && what != 0 && rowToo && (what == 2 || !inDeep && rows < 2)) {
                made = lettered('*');
                rows++;
            } else if (c == '@' && what == 1 && deeps == 0) {
                made = deep();
            } else {
                throw new Fault(pos);
            }
            made.from = from;
            return made;
        }

        private Piece term() {
            int from = pos;
            while (atomic(peek())) {
                pos++;
            }
            Piece made = new Piece('t', bytes.substring(from, pos));
            made.behind = pos;
            blanks();
            if (peek() == '(') {
                open();
                made.terms = new ArrayList<>();
                blanks();
                if (peek() != ')') {
                    list(made);
                }
                close(made);
            }
            return made;
        }

        private void list(Piece made) {
            while (true) {
                Piece term = piece(true);
                term.parent = made;
                made.terms.add(term);
                blanks();
                if (peek() == ')') {
                    return;
                }
                if (peek() != ',') {
                    throw new Fault(pos);
                }
                pos++;
            }
        }

        private void open() {
            if (depth == 12) {
                throw new Fault(pos);
            }
            depth++;
            pos++;
        }

        private void close(Piece made) {
            blanks();
            if (peek() != ')') {
                throw new Fault(pos);
            }
            depth--;
            pos++;
            made.behind = pos;
        }

        private Piece lettered(char kind) {
            int mark = pos;
            pos++;
            if (!small(peek())) {
                throw new Fault(pos);
            }
            char letter = (char) peek();
            if (kinds.getOrDefault(letter, kind) != kind) {
                throw new Fault(mark);
            }
            kinds.put(letter, kind);
            pos++;
            Piece made = new Piece(kind, "" + letter);
            made.behind = pos;
            return made;
        }

        private Piece deep() {
            deeps++;
            pos++;
            blanks();
            if (peek() != '(') {
                throw new Fault(pos);
            }
            open();
            inDeep = true;
            Piece made = new Piece('@', "");
            Piece inner = piece(false);
            inner.parent = made;
            made.terms = new ArrayList<>(List.of(inner));
            close(made);
            inDeep = false;
            return made;
        }
    }

    /** What one letter is at one place where it stands. */
    private static final class Bound {
        final char kind;
        final char letter;
        final List<Piece> nodes;

        Bound(Piece piece, List<Piece> nodes) {
            this.kind = piece.kind;
            this.letter = piece.name.charAt(0);
            this.nodes = nodes;
        }
    }

    private String tape = "";
    private String text = "a";
    private String pattern = "a";
    private String template = "a";
    private final Set<String> differing = new HashSet<>();
    private final Deque<String> past = new ArrayDeque<>();

    static int faultOf(String bytes, int what) {
        try {
            new Parser(bytes, what).whole();
            return -1;
        } catch (Fault fault) {
            return fault.place;
        }
    }

    private Piece tree() {
        return new Parser(text, 0).whole();
    }

    private Piece shape(String bytes, int what) {
        return new Parser(bytes, what).whole();
    }

    int feed(int... numbers) {
        StringBuilder more = new StringBuilder(tape);
        for (int number : numbers) {
            for (int k = 3; k >= 0; k--) {
                int fed = (number >> 8 * k) & 255;
                if (fed != 0) {
                    more.append((char) fed);
                }
            }
        }
        if (more.length() > 240) {
            return -1;
        }
        tape = more.toString();
        return tape.length();
    }

    boolean end(int n) {
        if (n < 0 || n > tape.length()) {
            return false;
        }
        tape = tape.substring(0, n);
        return true;
    }

    int fault(int what) {
        if (what < 0 || what > 2 || what > 0 && tape.length() > 80) {
            return -2;
        }
        return faultOf(tape, what);
    }

    boolean take(int what) {
        if (fault(what) != -1) {
            return false;
        }
        if (what == 0) {
            text = tape;
            past.clear();
        } else if (what == 1) {
            pattern = tape;
            differing.clear();
        } else {
            template = tape;
        }
        tape = "";
        return true;
    }

    boolean differ(int one, int other, boolean is) {
        if (one < 0 || one > 25 || other < 0 || other > 25 || one == other) {
            return false;
        }
        String pair = "" + (char) ('a' + Math.min(one, other)) + (char) ('a' + Math.max(one, other));
        return is ? differing.add(pair) : differing.remove(pair);
    }

    int nodes() {
        return tree().all().size();
    }

    private Piece nodeAt(int node) {
        List<Piece> all = tree().all();
        return node >= 0 && node < all.size() ? all.get(node) : null;
    }

    int node(int node, int what) {
        Piece piece = nodeAt(node);
        if (piece == null || what < 0 || what > 3) {
            return -1;
        }
        int parent = piece.parent == null ? -1 : piece.parent.number;
        int terms = piece.terms == null ? 0 : piece.terms.size();
        return new int[] {piece.from, piece.behind, terms, parent}[what];
    }

    boolean alike(int one, int other) {
        Piece mine = nodeAt(one);
        Piece its = nodeAt(other);
        return mine != null && its != null && mine.shape().equals(its.shape());
    }

    private List<List<Bound>> ways(Piece piece, Piece node) {
        List<List<Bound>> found = new ArrayList<>();
        if (piece.kind == '?') {
            found.add(List.of(new Bound(piece, List.of(node))));
        } else if (piece.kind == '@') {
            for (Piece within : node.all()) {
                found.addAll(ways(piece.terms.get(0), within));
            }
        } else if (piece.name.equals(node.name) && (piece.terms == null) == (node.terms == null)) {
            return piece.terms == null ? List.of(List.of()) : listWays(piece.terms, node.terms);
        }
        return found;
    }

    private List<List<Bound>> listWays(List<Piece> pieces, List<Piece> nodes) {
        List<List<Bound>> found = new ArrayList<>();
        if (pieces.isEmpty()) {
            return nodes.isEmpty() ? List.of(List.of()) : List.of();
        }
        Piece piece = pieces.get(0);
        List<Piece> others = pieces.subList(1, pieces.size());
        if (piece.kind == '*') {
            for (int many = 0; many <= nodes.size(); many++) {
                List<Bound> row = List.of(new Bound(piece, nodes.subList(0, many)));
                joinAll(found, row, listWays(others, nodes.subList(many, nodes.size())));
            }
        } else if (!nodes.isEmpty()) {
            List<List<Bound>> rest = listWays(others, nodes.subList(1, nodes.size()));
            if (!rest.isEmpty()) {
                for (List<Bound> way : ways(piece, nodes.get(0))) {
                    joinAll(found, way, rest);
                }
            }
        }
        return found;
    }

    private static void joinAll(List<List<Bound>> found, List<Bound> start, List<List<Bound>> rests) {
        for (List<Bound> rest : rests) {
            List<Bound> joined = new ArrayList<>(start);
            joined.addAll(rest);
            found.add(joined);
        }
    }

    private static List<String> shapes(List<Piece> nodes) {
        List<String> told = new ArrayList<>();
        for (Piece node : nodes) {
            told.add(node.shape());
        }
        return told;
    }

    private Map<Character, Bound> lettersOf(List<Bound> way) {
        Map<Character, Bound> letters = new HashMap<>();
        for (Bound bound : way) {
            Bound first = letters.putIfAbsent(bound.letter, bound);
            if (first != null && !shapes(first.nodes).equals(shapes(bound.nodes))) {
                return null;
            }
        }
        for (String pair : differing) {
            Bound one = letters.get(pair.charAt(0));
            Bound other = letters.get(pair.charAt(1));
            if (one != null && other != null && one.kind == '?' && other.kind == '?'
                    && shapes(one.nodes).equals(shapes(other.nodes))) {
                return null;
            }
        }
        return letters;
    }

    private Map<Character, Bound> found(Piece node) {
        for (List<Bound> way : ways(shape(pattern, 1), node)) {
            Map<Character, Bound> letters = lettersOf(way);
            if (letters != null) {
                return letters;
            }
        }
        return null;
    }

    private List<Piece> matched(Piece tree) {
        List<Piece> list = new ArrayList<>();
        for (Piece node : tree.all()) {
            if (found(node) != null) {
                list.add(node);
            }
        }
        return list;
    }

    int matches() {
        return matched(tree()).size();
    }

    int match(int i) {
        List<Piece> list = matched(tree());
        return i >= 0 && i < list.size() ? list.get(i).number : -1;
    }

    private Bound bound(int node, int letter) {
        Piece piece = nodeAt(node);
        Map<Character, Bound> letters = piece == null ? null : found(piece);
        return letters == null || letter < 0 || letter > 25 ? null : letters.get((char) ('a' + letter));
    }

    int hole(int node, int letter) {
        Bound bound = bound(node, letter);
        return bound == null || bound.nodes.isEmpty() ? -1 : bound.nodes.get(0).number;
    }

    int row(int node, int letter) {
        Bound bound = bound(node, letter);
        return bound == null ? -1 : bound.nodes.size();
    }

    private List<Piece> taken(Piece tree, int rule) {
        List<Piece> list = matched(tree);
        if (rule == 2) {
            return greatest(tree, new HashSet<>(list));
        }
        List<Piece> kept = new ArrayList<>();
        for (Piece node : list) {
            boolean keeps = true;
            for (Piece other : list) {
                keeps &= rule == 0 ? !node.isWithin(other) : !other.isWithin(node);
            }
            if (keeps) {
                kept.add(node);
            }
        }
        return kept;
    }

    private static List<Piece> greatest(Piece node, Set<Piece> matched) {
        List<Piece> within = new ArrayList<>();
        if (node.terms != null) {
            for (Piece term : node.terms) {
                within.addAll(greatest(term, matched));
            }
        }
        return matched.contains(node) && within.size() <= 1 ? List.of(node) : within;
    }

    int taken(int rule) {
        return rule < 0 || rule > 2 ? -1 : taken(tree(), rule).size();
    }

    int takes(int rule, int i) {
        if (rule < 0 || rule > 2) {
            return -1;
        }
        List<Piece> list = taken(tree(), rule);
        return i >= 0 && i < list.size() ? list.get(i).number : -1;
    }

    private boolean lettersFit() {
        Set<String> known = new HashSet<>();
        for (Piece piece : shape(pattern, 1).all()) {
            known.add(piece.kind + piece.name);
        }
        for (Piece piece : shape(template, 2).all()) {
            if (piece.kind != 't' && !known.contains(piece.kind + piece.name)) {
                return false;
            }
        }
        return true;
    }

    private String spanOf(List<Piece> nodes) {
        return nodes.isEmpty() ? "" : text.substring(nodes.get(0).from, nodes.get(nodes.size() - 1).behind);
    }

    /** The bytes between two terms that both stay are those behind the first one of them. */
    private String written(Piece piece, Map<Character, Bound> letters) {
        if (piece.kind != 't') {
            return spanOf(letters.get(piece.name.charAt(0)).nodes);
        }
        if (piece.terms == null || piece.terms.isEmpty()) {
            return template.substring(piece.from, piece.behind);
        }
        int all = piece.terms.size();
        int first = piece.terms.get(0).from;
        StringBuilder made = new StringBuilder();
        int stayed = 0;
        for (int k = 0; k < all; k++) {
            Piece term = piece.terms.get(k);
            if (term.kind == '*' && letters.get(term.name.charAt(0)).nodes.isEmpty()) {
                continue;
            }
            if (stayed > 0) {
                made.append(template, piece.terms.get(stayed - 1).behind, piece.terms.get(stayed).from);
            }
            made.append(written(term, letters));
            stayed = k + 1;
        }
        String last = template.substring(piece.terms.get(all - 1).behind, piece.behind);
        return template.substring(piece.from, first) + made + last;
    }

    /** The text with the template put; null if that is refused. */
    private String putOnce(List<Piece> taken) {
        StringBuilder made = new StringBuilder();
        int done = 0;
        for (Piece node : taken) {
            made.append(text, done, node.from).append(written(shape(template, 2), found(node)));
            done = node.behind;
        }
        made.append(text.substring(done));
        String whole = made.toString();
        return whole.length() > 240 || faultOf(whole, 0) != -1 ? null : whole;
    }

    private void keep(String before) {
        past.push(before);
        while (past.size() > 10) {
            past.removeLast();
        }
    }

    int put(int rule) {
        if (rule < 0 || rule > 2 || !lettersFit()) {
            return -2;
        }
        List<Piece> taken = taken(tree(), rule);
        String made = putOnce(taken);
        if (made == null) {
            return -2;
        }
        keep(text);
        text = made;
        return taken.size();
    }

    int putAll(int rule) {
        if (rule < 0 || rule > 2 || !lettersFit() || putOnce(taken(tree(), rule)) == null) {
            return -2;
        }
        String before = text;
        int times = 0;
        while (true) {
            List<Piece> taken = taken(tree(), rule);
            if (taken.isEmpty()) {
                keep(before);
                return times;
            }
            String made = times == 20 ? null : putOnce(taken);
            if (made == null) {
                text = before;
                return -1;
            }
            text = made;
            times++;
        }
    }

    boolean back() {
        if (past.isEmpty()) {
            return false;
        }
        text = past.pop();
        return true;
    }

    int at(int i) {
        if (i < 0 || i >= text.length()) {
            throw new NoSuchElementException();
        }
        return text.charAt(i);
    }

    int count(int what) {
        List<Integer> counts = Arrays.asList(text.length(), pattern.length(), template.length(), tape.length(), past.size());
        return what < 0 || what > 4 ? -1 : counts.get(what);
    }

    String text() {
        return text;
    }

    String told() {
        return "text '" + text + "' pattern '" + pattern + "' template '" + template + "' tape '" + tape + "' differing " + differing;
    }
}
