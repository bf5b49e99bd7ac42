import java.util.ArrayList;
import java.util.List;
import java.util.NoSuchElementException;
import java.util.Random;

/** Random runs of calls on a ShapeTool and on the Model: every answer must be the same. */
public final class RandomTest {
    private static final int RUNS = 8000;
    // What an object answers after that many calls is free.
    private static final int MOST_CALLS = 512;
    private static final int MOST_CALLS_OF_A_STEP = 110;
    private static final String[] ATOMS = {"a", "b", "f", "g", "f", "g", "ab", "0"};

    private final Random random;
    private final Check check;
    private final ShapeTool tool = new ShapeTool();
    private final Model model = new Model();
    private final List<String> told = new ArrayList<>();
    private int calls = 0;
    private boolean failed = false;
    private String latestText = "a";
    private String readText = "";
    private String latestPattern = "a";

    private RandomTest(long seed, Check check) {
        this.random = new Random(seed);
        this.check = check;
    }

    public static void main(String[] args) {
        Check check = new Check();
        int[] seen = new int[8];
        for (int run = 0; run < RUNS; run++) {
            new RandomTest(run, check).run(seen);
        }
        System.out.println("puts done " + seen[0] + ", refused " + seen[1] + "; putAlls done " + seen[2] + ", given up "
                + seen[3] + ", refused " + seen[4] + "; nodes matched " + seen[5] + "; taken back " + seen[6]);
        for (int k = 0; k < 7; k++) {
            check.same("kind " + k + " of answers was met", true, seen[k] > 0);
        }
        check.finish();
    }

    private void same(String call, Object due, Object got) {
        calls++;
        told.add(call + " = " + due);
        if (!due.equals(got)) {
            failed = true;
            System.out.println("calls: " + told);
            System.out.println("state: " + model.told());
        }
        check.same(call, due, got);
    }

    private void run(int[] seen) {
        while (calls + MOST_CALLS_OF_A_STEP <= MOST_CALLS && !failed) {
            switch (random.nextInt(11)) {
                case 0:
                    takeText();
                    break;
                case 1:
                case 2:
                    takeShape(1, latestPattern = patternFor());
                    break;
                case 3:
                    takeShape(2, templateFor());
                    break;
                case 4:
                    differ();
                    break;
                case 5:
                case 6:
                    puts(seen);
                    break;
                case 7:
                    asks(seen);
                    break;
                case 8:
                    wild();
                    break;
                case 9:
                    boolean back = model.back();
                    same("back()", back, tool.back());
                    seen[6] += back ? 1 : 0;
                    break;
                default:
                    tapes();
            }
            latestText = model.text();
            counts();
            if (!latestText.equals(readText) && calls + latestText.length() < MOST_CALLS) {
                readText();
            }
        }
        check.same("the run keeps within its calls", true, calls <= MOST_CALLS);
    }

    private void feed(String bytes) {
        for (int from = 0; from < bytes.length(); from += 20) {
            int[] n = Tool.numbers(bytes, from);
            same("feed", model.feed(n), tool.feed(n[0], n[1], n[2], n[3], n[4]));
        }
    }

    private void load(String bytes) {
        same("end(0)", model.end(0), tool.end(0));
        feed(bytes);
    }

    private void takeText() {
        load(blanked(term(random.nextInt(20) == 0 ? 13 : random.nextInt(5), random.nextInt(6) == 0 ? 60 : 14)));
        same("fault(0)", model.fault(0), tool.fault(0));
        same("take(0)", model.take(0), tool.take(0));
    }

    private void takeShape(int what, String bytes) {
        load(bytes);
        same("fault(" + what + ")", model.fault(what), tool.fault(what));
        same("take(" + what + ")", model.take(what), tool.take(what));
    }

    private void differ() {
        int one = random.nextInt(5) - (random.nextInt(20) == 0 ? 3 : 0);
        int other = random.nextInt(5) + (random.nextInt(20) == 0 ? 22 : 0);
        boolean is = random.nextInt(3) > 0;
        same("differ(" + one + ", " + other + ", " + is + ")", model.differ(one, other, is), tool.differ(one, other, is));
    }

    private void puts(int[] seen) {
        int rule = random.nextInt(20) == 0 ? random.nextInt(9) - 4 : random.nextInt(3);
        if (random.nextBoolean()) {
            int due = model.put(rule);
            same("put(" + rule + ")", due, tool.put(rule));
            seen[due >= 0 ? 0 : 1]++;
        } else {
            int due = model.putAll(rule);
            same("putAll(" + rule + ")", due, tool.putAll(rule));
            seen[due >= 0 ? 2 : due == -1 ? 3 : 4]++;
        }
    }

    private void readText() {
        StringBuilder read = new StringBuilder();
        for (int i = 0; i < latestText.length(); i++) {
            read.append((char) toolAt(i));
            calls++;
        }
        readText = latestText;
        same("text", latestText, read.toString());
    }

    private void counts() {
        for (int what = -1; what < 6; what++) {
            same("count(" + what + ")", model.count(what), tool.count(what));
        }
        int i = random.nextInt(300) - 20;
        same("at(" + i + ")", modelAt(i), toolAt(i));
    }

    private int modelAt(int i) {
        try {
            return model.at(i);
        } catch (NoSuchElementException e) {
            return -9;
        }
    }

    private int toolAt(int i) {
        try {
            return tool.at(i);
        } catch (NoSuchElementException e) {
            return -9;
        }
    }

    /** Of a row of so many: the first ones, one of all, the last one, and those that are just beside the row. */
    private int[] places(int many) {
        return new int[] {-1, 0, 1, 2, random.nextInt(Math.max(1, many)), many - 1, many};
    }

    private void asks(int[] seen) {
        int nodes = model.nodes();
        same("nodes()", nodes, tool.nodes());
        int node = random.nextInt(nodes + 2) - 1;
        for (int what = -1; what < 5; what++) {
            same("node(" + node + ", " + what + ")", model.node(node, what), tool.node(node, what));
        }
        int other = random.nextInt(nodes + 2) - 1;
        same("alike(" + node + ", " + other + ")", model.alike(node, other), tool.alike(node, other));
        int matches = model.matches();
        seen[5] += matches;
        same("matches()", matches, tool.matches());
        for (int i : places(matches)) {
            same("match(" + i + ")", model.match(i), tool.match(i));
        }
        for (int rule = -1; rule < 4; rule++) {
            int taken = model.taken(rule);
            same("taken(" + rule + ")", taken, tool.taken(rule));
            for (int i : places(taken)) {
                same("takes(" + rule + ", " + i + ")", model.takes(rule, i), tool.takes(rule, i));
            }
        }
        for (int k = 0; k < 2; k++) {
            int asked = matches > 0 ? model.match(random.nextInt(matches)) : node;
            for (int letter = -1; letter < 6; letter++) {
                same("hole(" + asked + ", " + letter + ")", model.hole(asked, letter), tool.hole(asked, letter));
                same("row(" + asked + ", " + letter + ")", model.row(asked, letter), tool.row(asked, letter));
            }
        }
    }

    private int wildNumber() {
        int[] wild = {Integer.MIN_VALUE, Integer.MAX_VALUE, -2, -1, 0, 1, 2, 3, 25, 26, 31, 32, 119, 120, 239, 240, 256};
        int k = random.nextInt(wild.length + 1);
        return k < wild.length ? wild[k] : random.nextInt();
    }

    private void wild() {
        int a = wildNumber();
        int b = wildNumber();
        String both = "(" + a + ", " + b + ")";
        same("node" + both, model.node(a, b), tool.node(a, b));
        same("alike" + both, model.alike(a, b), tool.alike(a, b));
        same("hole" + both, model.hole(a, b), tool.hole(a, b));
        same("row" + both, model.row(a, b), tool.row(a, b));
        same("takes" + both, model.takes(a, b), tool.takes(a, b));
        same("differ" + both, model.differ(a, b, true), tool.differ(a, b, true));
        same("match(" + a + ")", model.match(a), tool.match(a));
        same("taken(" + a + ")", model.taken(a), tool.taken(a));
        same("count(" + a + ")", model.count(a), tool.count(a));
        same("fault(" + a + ")", model.fault(a), tool.fault(a));
        same("take(" + a + ")", model.take(a), tool.take(a));
        same("put(" + a + ")", model.put(a), tool.put(a));
        same("putAll(" + a + ")", model.putAll(a), tool.putAll(a));
        same("end(" + a + ")", model.end(a), tool.end(a));
        same("feed" + both, model.feed(a, b, 0, a, b), tool.feed(a, b, 0, a, b));
    }

    private void tapes() {
        String[] sources = {latestText, latestPattern, templateFor(), term(13, 30), term(14, 5)};
        StringBuilder bytes = new StringBuilder(sources[random.nextInt(sources.length)]);
        for (int k = random.nextInt(3); k > 0; k--) {
            int place = random.nextInt(bytes.length() + 1);
            char c = "ab0()?*@, \n\t{`/:A\u00e9".charAt(random.nextInt(18));
            if (random.nextBoolean() || place == bytes.length()) {
                bytes.insert(place, c);
            } else {
                bytes.setCharAt(place, c);
            }
        }
        load(bytes.toString());
        if (random.nextInt(8) == 0) {
            feed(bytes.toString());
        }
        int n = random.nextInt(4) == 0 ? random.nextInt(260) - 5 : model.count(3);
        same("end(" + n + ")", model.end(n), tool.end(n));
        for (int what = -1; what < 4; what++) {
            same("fault(" + what + ")", model.fault(what), tool.fault(what));
        }
        int what = random.nextInt(5) - 1;
        same("take(" + what + ")", model.take(what), tool.take(what));
    }

    private String term(int depth, int budget) {
        String atom = ATOMS[random.nextInt(ATOMS.length)];
        if (depth <= 0 || random.nextInt(4) == 0 && depth < 10) {
            return atom;
        }
        StringBuilder made = new StringBuilder(atom).append('(');
        int many = depth > 9 ? 1 : random.nextInt(4) == 0 ? random.nextInt(6) : random.nextInt(3);
        for (int k = 0; k < many && made.length() < budget; k++) {
            made.append(k == 0 ? "" : ",").append(term(depth - 1, budget / Math.max(1, many)));
        }
        return made.append(')').toString();
    }

    private String blanked(String bytes) {
        if (random.nextInt(3) > 0) {
            return bytes;
        }
        StringBuilder made = new StringBuilder(random.nextBoolean() ? " " : "");
        for (int i = 0; i < bytes.length(); i++) {
            char c = bytes.charAt(i);
            boolean mark = "(),".indexOf(c) >= 0;
            made.append(mark && random.nextInt(3) == 0 ? " " : "").append(c);
            made.append(mark && random.nextInt(3) == 0 ? "\n" : "");
        }
        return made.append(random.nextBoolean() ? " " : "").toString();
    }

    /** A piece of the text with some of its terms become holes, rows and deep. */
    private String patternFor() {
        if (random.nextInt(8) == 0) {
            return blanked(shapeFrom(term(3, 10), true));
        }
        String piece = latestText;
        int nodes = model.nodes();
        for (int tries = 0; tries < 4; tries++) {
            int node = random.nextInt(nodes);
            piece = latestText.substring(model.node(node, 0), model.node(node, 1));
            if (piece.indexOf('(') > 0) {
                break;
            }
        }
        return blanked(shapeFrom(piece, true));
    }

    private String shapeFrom(String bytes, boolean pattern) {
        Model.Piece tree = new Model.Parser(bytes, 0).whole();
        return told(tree, pattern, new int[] {pattern ? 2 : 9, pattern ? 1 : 0}, false);
    }

    private String told(Model.Piece piece, boolean pattern, int[] left, boolean inDeep) {
        int dice = random.nextInt(10);
        if (dice == 0 && left[1] > 0) {
            left[1]--;
            return "@(" + told(piece, pattern, left, true) + ")";
        }
        if (dice == 1 && left[1] > 0 && piece.terms != null) {
            left[1]--;
            List<Model.Piece> all = piece.all();
            return "@(" + told(all.get(random.nextInt(all.size())), pattern, left, true) + ")";
        }
        if (dice < 4 && piece.parent != null || piece.parent == null && random.nextInt(12) == 0) {
            return "?" + "abc".charAt(random.nextInt(3));
        }
        if (piece.terms == null) {
            return piece.name;
        }
        StringBuilder made = new StringBuilder(piece.name).append('(');
        String between = "";
        for (int k = 0; k <= piece.terms.size(); k++) {
            if (!inDeep && left[0] > 0 && random.nextInt(3) == 0) {
                left[0]--;
                made.append(between).append('*').append("de".charAt(random.nextInt(2)));
                between = ",";
                k += random.nextInt(3);
            }
            if (k < piece.terms.size()) {
                made.append(between).append(told(piece.terms.get(k), pattern, left, inDeep));
                between = ",";
            }
        }
        return made.append(')').toString();
    }

    /** A template with letters that the pattern has, most of the time. */
    private String templateFor() {
        String made = shapeFrom(term(3, 20), false);
        if (random.nextInt(3) == 0) {
            int within = random.nextInt(3);
            made = "f(" + "g(".repeat(within) + "*d , ?a,*e,*d" + ")".repeat(within + 1);
        }
        if (random.nextInt(10) > 0) {
            made = fitted(made);
        }
        return blanked(made);
    }

    private String fitted(String template) {
        StringBuilder made = new StringBuilder();
        for (int i = 0; i < template.length(); i++) {
            char c = template.charAt(i);
            if ((c == '?' || c == '*') && latestPattern.indexOf("" + c + template.charAt(i + 1)) < 0) {
                int other = latestPattern.indexOf(c);
                made.append(other < 0 ? "b" : latestPattern.substring(other, other + 2));
                i++;
            } else {
                made.append(c);
            }
        }
        return made.toString();
    }
}
