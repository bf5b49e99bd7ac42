/** One test for each sentence of the document's promises 1 to 20 that names a boundary case; what is refused, too. */
public final class PromiseEdgeTest {
    private static final int[] FAR = {Integer.MIN_VALUE, -2, -1, Integer.MAX_VALUE};
    private static final Edge EDGE = new Edge();

    public static void main(String[] args) {
        p1NewObject();
        p2TwentyBytes();
        p2HighestFirstZerosLeftOut();
        p2MoreThan240();
        p3FirstNBytes();
        p3WrongN();
        p4FaultOfTheThree();
        p4NoFault();
        p4AnotherWhatOrMoreThan80();
        p5TextAndNothingToGoBackTo();
        p5PatternAndNothingDiffers();
        p5TemplateAndTheTapeIsEmpty();
        p5Faulty();
        p6LettersThatDiffer();
        p6NoSuchAlikeOrSo();
        p7Nodes();
        p8Node();
        p8Others();
        p9Alike();
        p9Others();
        p10Matches();
        p11Match();
        p11Without();
        p12HoleAndRow();
        p12NotMatchedNoLetterRowOfNone();
        p13HowMany();
        p13NotMatchedNoLetter();
        p14Taken();
        p14NoRule();
        p15Rising();
        p15Without();
        p16HowManyWereTaken();
        p16NoRuleOrLetter();
        p16LongerThan240();
        p16DeeperThanTwelve();
        p17TillNothingIsTaken();
        p17AtOnceAsPut();
        p17NotDoneAfter20();
        p17OneIsRefused();
        p17OneToGoBackTo();
        p18Latest();
        p18LatestTen();
        p18None();
        p19Byte();
        p19NoByte();
        p20Counts();
        p20Others();
        refusedChangesNothing();
        EDGE.finish();
    }

    private static Tool tool(String text, String pattern, String template) {
        return new Tool().with(text, pattern, template);
    }

    private static String nested(int opened, String inner) {
        return "a(".repeat(opened) + inner + ")".repeat(opened);
    }

    /** Something of all: two to go back to, holes that differ, a tape that could be a text. */
    private static Tool full() {
        Tool tool = tool("f(1,g(2,3))", "g(?a,?b)", "g(?b,?a,?a)");
        tool.it.put(0);
        tool.take(1, "g(?a,?b,?c)");
        tool.it.differ(0, 1, true);
        tool.it.put(0);
        tool.take(2, "h(?a,?b)");
        tool.take(1, "f(?a,?b)");
        tool.it.differ(1, 0, true);
        tool.it.differ(3, 2, true);
        tool.feed("k(4)");
        return tool;
    }

    private static void p1NewObject() {
        EDGE.of("1", "TEXT, PATTERN, TEMPLATE are the one byte a; nothing DIFFERS, nothing to go back to.");
        Tool tool = new Tool();
        EDGE.due("the text", "a", tool.text());
        for (int what = 0; what < 3; what++) {
            EDGE.due("count(" + what + ")", 1, tool.it.count(what));
        }
        EDGE.due("the tape", 0, tool.it.count(3));
        EDGE.due("its only node", "0-1 0 of -1", tool.spans());
        EDGE.due("to go back to", 0, tool.it.count(4));
        EDGE.due("back", false, tool.it.back());
        Tool pairs = new Tool();
        for (int one = 0; one < 26; one++) {
            for (int other = 0; other < one; other++) {
                EDGE.due("letters " + one + ", " + other, false, pairs.it.differ(one, other, false));
            }
        }
        tool.take(0, "f(a,b,a(),aa)");
        EDGE.due("the pattern is a", "1", tool.matches());
        tool.take(1, "b");
        EDGE.due("the template is put", 1, tool.it.put(0));
        EDGE.due("it is a", "f(a,a,a(),aa)", tool.text());
        EDGE.due("another object", "a", new Tool().text());
    }

    private static void p2TwentyBytes() {
        EDGE.of("2", "Twenty bytes more of the TAPE");
        Tool tool = new Tool();
        EDGE.due("twenty", 20, tool.it.feed(0x61626364, 0x65666768, 0x696a6b6c, 0x6d6e6f70, 0x71727374));
        EDGE.due("and twenty", 40, tool.it.feed(0x75767778, 0x797a3031, 0x32333435, 0x36373839, 0x61626364));
        tool.it.take(0);
        EDGE.due("in their order", "abcdefghijklmnopqrstuvwxyz0123456789abcd", tool.text());
    }

    private static void p2HighestFirstZerosLeftOut() {
        EDGE.of("2", "(of each number the highest first; bytes of 0 are left out): how many it has.");
        Tool tool = new Tool();
        EDGE.due("nothing", 0, tool.it.feed(0, 0, 0, 0, 0));
        EDGE.due("one, lowest", 1, tool.it.feed(0, 0, 0x66, 0, 0));
        EDGE.due("zeros between", 3, tool.it.feed(0x28000061, 0, 0, 0, 0));
        EDGE.due("nothing more", 3, tool.it.feed(0, 0, 0, 0, 0));
        EDGE.due("zeros at the ends", 5, tool.it.feed(0, 0x002c0000, 0, 0, 0x6200));
        EDGE.due("the last one", 6, tool.it.feed(0, 0, 0, 0, 0x29));
        EDGE.due("taken", true, tool.it.take(0));
        EDGE.due("text", "f(a,b)", tool.text());
        EDGE.due("bytes above 127", 20, tool.it.feed(-1, 0x80808080, Integer.MIN_VALUE | 0x616161, 0xff01ff01, -2));
        EDGE.due("are no text", 0, tool.it.fault(0));
        tool.it.end(0);
        EDGE.due("a byte above 127 behind an atom", 3, tool.it.feed(0x006161ff, 0, 0, 0, 0));
        EDGE.due("it is the fault", 2, tool.it.fault(0));
    }

    private static void p2MoreThan240() {
        EDGE.of("2", "NONE: more than 240.");
        Tool tool = new Tool();
        EDGE.due("240", 240, tool.feed("a".repeat(240)));
        EDGE.due("nothing more", 240, tool.it.feed(0, 0, 0, 0, 0));
        EDGE.due("one more, first", -1, tool.it.feed(0x61000000, 0, 0, 0, 0));
        EDGE.due("one more, last", -1, tool.it.feed(0, 0, 0, 0, 0x61));
        EDGE.due("twenty more", -1, tool.it.feed(-1, -1, -1, -1, -1));
        EDGE.due("240 still", 240, tool.it.count(3));
        EDGE.due("239", true, tool.it.end(239));
        EDGE.due("two more", -1, tool.it.feed(0x28000000, 0, 0, 0, 0x28));
        EDGE.due("239 still", 239, tool.it.count(3));
        EDGE.due("one more", 240, tool.it.feed(0, 0, 0x6200, 0, 0));
        EDGE.due("taken", true, tool.it.take(0));
        EDGE.due("no byte of the refused", "a".repeat(239) + "b", tool.text());
        Tool near = new Tool();
        EDGE.due("221", 221, near.feed("a".repeat(221)));
        EDGE.due("twenty more", -1, near.it.feed(-1, -1, -1, -1, -1));
        EDGE.due("nineteen more", 240, near.it.feed(0x616161, 0x61616161, 0x61616161, 0x61616161, 0x61616161));
    }

    private static void p3FirstNBytes() {
        EDGE.of("3", "The TAPE has its first n bytes alone.");
        Tool tool = new Tool();
        EDGE.due("none of none", true, tool.it.end(0));
        tool.feed("abcde");
        EDGE.due("all", true, tool.it.end(5));
        EDGE.due("all stay", 5, tool.it.count(3));
        EDGE.due("all but one", true, tool.it.end(4));
        EDGE.due("four", 4, tool.it.count(3));
        tool.feed("z");
        EDGE.due("taken", true, tool.it.take(0));
        EDGE.due("what is fed goes behind them", "abcdz", tool.text());
        tool.feed("abc");
        EDGE.due("none", true, tool.it.end(0));
        EDGE.due("none stay", 0, tool.it.count(3));
        EDGE.due("it is empty", 0, tool.it.fault(0));
        tool.feed("a".repeat(240));
        EDGE.due("all 240", true, tool.it.end(240));
        EDGE.due("240", 240, tool.it.count(3));
    }

    private static void p3WrongN() {
        EDGE.of("3", "False: n.");
        EDGE.due("past an empty tape", false, new Tool().it.end(1));
        for (int n : FAR) {
            EDGE.refused("end(" + n + ")", false, PromiseEdgeTest::full, tool -> tool.it.end(n));
        }
        EDGE.refused("end(5)", false, PromiseEdgeTest::full, tool -> tool.it.end(5));
        Tool tool = full();
        EDGE.due("the first two", true, tool.it.end(2));
        EDGE.due("three of two", false, tool.it.end(3));
        tool.feed("a".repeat(20));
        EDGE.due("241", false, tool.it.end(241));
    }

    private static void p4FaultOfTheThree() {
        EDGE.of("4", "The FAULT of the TAPE as a TEXT (what 0), a PATTERN (1), a TEMPLATE (2; letters of the PATTERN are not asked).");
        Tool tool = new Tool();
        tool.feed("f(*a,*b,*c,@(d))");
        EDGE.due("as a text", 2, tool.it.fault(0));
        EDGE.due("as a pattern", 8, tool.it.fault(1));
        EDGE.due("as a template", 11, tool.it.fault(2));
        EDGE.due("of an empty tape", 0, new Tool().it.fault(0));
        EDGE.due("of an empty tape", 0, new Tool().it.fault(1));
        EDGE.due("of an empty tape", 0, new Tool().it.fault(2));
        Tool letters = tool("a", "f(?x,*y)", "a");
        EDGE.due("a letter that the pattern has not", -1, letters.fault(2, "g(?q)"));
        EDGE.due("a letter of the pattern's other kind", -1, letters.fault(2, "g(*x,?y)"));
        EDGE.due("a letter of the template's other kind", -1, tool("a", "a", "g(?x)").fault(1, "g(*x)"));
        ofThisTapeAlone();
    }

    /** Each of these would leave something behind: what is open, what stood once, bytes behind the end. */
    private static void ofThisTapeAlone() {
        String[] earlier = {"@(f(a", "f(*a,*b", "f(?c,?d,", "a(a(a(a(a(a(a(a(a(a(a(a(", "f(@(b),", "?", "f(*", "bbbbbbbbbbbbbbb"};
        for (String bytes : earlier) {
            for (int what = 1; what < 3; what++) {
                Tool tool = new Tool();
                tool.fault(1, bytes);
                EDGE.due("fault(" + what + ") behind '" + bytes + "'", -1, tool.fault(what, "f(g(*c),*d,?a,?b)"));
                tool.fault(1, bytes);
                EDGE.due("fault(1) behind '" + bytes + "'", -1, tool.fault(1, "a(a(a(a(a(a(a(a(a(a(a(@(f))))))))))))"));
            }
        }
        Tool hole = new Tool();
        EDGE.due("a hole", -1, hole.fault(1, "?a"));
        EDGE.due("its ? alone", true, hole.it.end(1));
        EDGE.due("has no letter", 1, hole.it.fault(1));
        EDGE.due("has no letter", 1, hole.it.fault(2));
        Tool cut = new Tool();
        cut.feed("f(?a,*b)");
        EDGE.due("whole", -1, cut.it.fault(1));
        for (int end = 7; end >= 0; end--) {
            cut.it.end(end);
            // f alone is whole again.
            EDGE.due("the first " + end, end == 1 ? -1 : end, cut.it.fault(1));
            EDGE.due("the first " + end, end == 1 ? -1 : end, cut.it.fault(2));
        }
    }

    private static void p4NoFault() {
        EDGE.of("4", "NONE: none.");
        for (int what = 0; what < 3; what++) {
            EDGE.fault(what, "f(a)", ShapeTool.NONE);
            EDGE.fault(what, "a".repeat(80), ShapeTool.NONE);
        }
        EDGE.fault(0, "a".repeat(240), ShapeTool.NONE);
        Tool tool = full();
        EDGE.due("none", -1, tool.it.fault(0));
        EDGE.due("nothing has changed", full().everything(), tool.everything());
    }

    private static void p4AnotherWhatOrMoreThan80() {
        EDGE.of("4", "-2: another what, or a PATTERN or TEMPLATE of more than 80 bytes.");
        for (int what : FAR) {
            EDGE.refused("fault(" + what + ")", -2, PromiseEdgeTest::full, tool -> tool.it.fault(what));
        }
        EDGE.refused("fault(3)", -2, PromiseEdgeTest::full, tool -> tool.it.fault(3));
        EDGE.due("another what of an empty tape", -2, new Tool().it.fault(3));
        for (int what = 1; what < 3; what++) {
            EDGE.fault(what, "(".repeat(80), 0);
            EDGE.fault(what, "(".repeat(81), -2);
            EDGE.fault(what, "a" + " ".repeat(79), -1);
            EDGE.fault(what, "a" + " ".repeat(80), -2);
            EDGE.fault(what, "a".repeat(240), -2);
        }
        EDGE.fault(0, "a".repeat(81), -1);
        EDGE.fault(0, "(".repeat(81), 0);
    }

    private static void p5TextAndNothingToGoBackTo() {
        EDGE.of("5", "The TAPE is the TEXT (0; nothing to go back to then),");
        Tool tool = full();
        EDGE.due("two to go back to", 2, tool.it.count(4));
        EDGE.due("taken", true, tool.it.take(0));
        EDGE.due("text", "k(4)", tool.text());
        EDGE.due("none to go back to", 0, tool.it.count(4));
        EDGE.due("back", false, tool.it.back());
        EDGE.due("text still", "k(4)", tool.text());
        EDGE.due("what differs stays", false, tool.it.differ(0, 1, true));
        EDGE.due("its nodes", "0-4 1 of -1; 2-3 0 of 0", tool.spans());
        tool.take(0, "f(5,6)");
        EDGE.due("the pattern stays", "a1x1 b2x1", tool.letters(0));
        EDGE.due("put", 1, tool.it.put(0));
        EDGE.due("the template stays", "h(5,6)", tool.text());
        EDGE.due("one to go back to", 1, tool.it.count(4));
        EDGE.due("back", true, tool.it.back());
        EDGE.due("not further", false, tool.it.back());
    }

    private static void p5PatternAndNothingDiffers() {
        EDGE.of("5", "the PATTERN (1; nothing DIFFERS then),");
        Tool tool = tool("f(1,1)", "f(?a,?b)", "a");
        tool.it.put(0);
        tool.it.back();
        tool.it.differ(0, 1, true);
        tool.it.differ(24, 25, true);
        EDGE.due("they differ", "", tool.matches());
        tool.feed("f(?a,?b)");
        EDGE.due("taken", true, tool.it.take(1));
        EDGE.due("nothing differs", "0", tool.matches());
        EDGE.due("not so", false, tool.it.differ(0, 1, false));
        EDGE.due("nor the others", false, tool.it.differ(25, 24, false));
        EDGE.due("it can be told again", true, tool.it.differ(1, 0, true));
        Tool turns = tool("f(b,d,b,c)", "f(*a,*b)", "a");
        turns.take(1, "f(*a)");
        EDGE.due("one row behind two", "a1x4", turns.letters(0));
        turns.take(1, "f(d,@(c))");
        turns.take(1, "f(*a,b,c,*d)");
        EDGE.due("two rows behind deep", "a1x2 d-1x0", turns.letters(0));
        turns.take(1, "f(*a,@(c))");
        EDGE.due("deep behind two rows", "a1x3", turns.letters(0));
        Tool kept = full();
        EDGE.due("a pattern of what was fed", true, kept.it.take(1));
        EDGE.due("there is still what to go back to", 2, kept.it.count(4));
        EDGE.due("the text stays", "f(1,g(2,3,3))", kept.text());
    }

    private static void p5TemplateAndTheTapeIsEmpty() {
        EDGE.of("5", "the TEMPLATE (2), and empty then.");
        Tool tool = full();
        EDGE.due("taken", true, tool.it.take(2));
        EDGE.due("the tape", 0, tool.it.count(3));
        EDGE.due("the template", 4, tool.it.count(2));
        EDGE.due("there is still what to go back to", 2, tool.it.count(4));
        EDGE.due("what differs stays", false, tool.it.differ(0, 1, true));
        EDGE.due("put", 1, tool.it.put(0));
        EDGE.due("it is put", "k(4)", tool.text());
        Tool turns = tool("f()", "f(*a,*b)", "g(*a,*b)");
        turns.take(2, "g( *a )");
        EDGE.due("put", 1, turns.it.put(0));
        EDGE.due("one row behind two", "g(  )", turns.text());
        for (int what = 0; what < 3; what++) {
            Tool other = new Tool();
            other.feed(" b ");
            EDGE.due("take(" + what + ")", true, other.it.take(what));
            EDGE.due("count(" + what + ")", 3, other.it.count(what));
            EDGE.due("the tape after take(" + what + ")", 0, other.it.count(3));
            EDGE.due("nothing is left to take(" + what + ")", false, other.it.take(what));
            EDGE.due("it is what it was", 3, other.it.count(what));
        }
    }

    private static void p5Faulty() {
        EDGE.of("5", "False: fault() is another than NONE.");
        for (int what : new int[] {Integer.MIN_VALUE, -1, 3, Integer.MAX_VALUE}) {
            EDGE.refused("take(" + what + ")", false, PromiseEdgeTest::full, tool -> tool.it.take(what));
        }
        String[] faulty = {"", " ", "f(", "f(?a,*a)", "f(a))", "A"};
        for (int what = 0; what < 3; what++) {
            int asked = what;
            for (String bytes : faulty) {
                EDGE.refused("take(" + what + ") of '" + bytes + "'", false, () -> fullWith(bytes), tool -> tool.it.take(asked));
            }
        }
        EDGE.refused("take(0) of a pattern", false, () -> fullWith("?a"), tool -> tool.it.take(0));
        EDGE.refused("take(2) of deep", false, () -> fullWith("@(a)"), tool -> tool.it.take(2));
        for (int what = 1; what < 3; what++) {
            Tool tool = new Tool();
            EDGE.due("81 bytes, take(" + what + ")", false, tool.take(what, "b".repeat(81)));
            EDGE.due("they stay on the tape", 81, tool.it.count(3));
            EDGE.due("a is what it was", 1, tool.it.count(what));
            EDGE.due("80 bytes", true, tool.it.end(80) && tool.it.take(what));
            EDGE.due("80 bytes are taken", 80, tool.it.count(what));
        }
    }

    private static Tool fullWith(String bytes) {
        Tool tool = full();
        tool.it.end(0);
        tool.feed(bytes);
        return tool;
    }

    private static void p6LettersThatDiffer() {
        EDGE.of("6", "Two letters (0: a .. 25: z) must DIFFER, or not.");
        Tool tool = tool("f(1,1)", "f(?a,?z)", "a");
        EDGE.due("a and z", true, tool.it.differ(0, 25, true));
        EDGE.due("they must", 0, tool.it.matches());
        EDGE.due("or not", true, tool.it.differ(25, 0, false));
        EDGE.due("they need not", 1, tool.it.matches());
        EDGE.due("z and a", true, tool.it.differ(25, 0, true));
        EDGE.due("they must", 0, tool.it.matches());
        EDGE.due("a and b", true, tool.it.differ(0, 1, true));
        EDGE.due("a and b need not", true, tool.it.differ(0, 1, false));
        EDGE.due("a and z still must", 0, tool.it.matches());
        manyPairs();
    }

    private static void manyPairs() {
        int[][] pairs = {{0, 1}, {2, 0}, {1, 2}, {3, 1}, {0, 3}, {25, 0}, {3, 25}};
        Tool tool = new Tool();
        for (int told = 0; told < pairs.length; told++) {
            EDGE.due("pair " + told, true, tool.it.differ(pairs[told][0], pairs[told][1], true));
            for (int k = 0; k < pairs.length; k++) {
                EDGE.due("pair " + k + " of " + told, false, tool.it.differ(pairs[k][k % 2], pairs[k][1 - k % 2], k <= told));
            }
        }
        for (int told = 0; told < pairs.length; told++) {
            EDGE.due("pair " + told + " no more", true, tool.it.differ(pairs[told][1], pairs[told][0], false));
            for (int k = 0; k < pairs.length; k++) {
                EDGE.due("pair " + k + " without " + told, false, tool.it.differ(pairs[k][0], pairs[k][1], k > told));
            }
        }
        for (String pattern : new String[] {"f(?a,?b,?c)", "f(?c,?b,?a)", "f(?b,?a,?c)", "f(?b,?c,?a)"}) {
            Tool three = tool("f(f(1,1,2),f(1,2,1),f(2,1,1),f(1,2,3))", pattern, "a");
            EDGE.due("a and b", true, three.it.differ(0, 1, true));
            EDGE.due("a and c", true, three.it.differ(0, 2, true));
            EDGE.due("only b and c may be alike in " + pattern, 2, three.it.matches());
        }
    }

    private static void p6NoSuchAlikeOrSo() {
        EDGE.of("6", "False: no such ones, alike, it is so.");
        int[] wrong = {Integer.MIN_VALUE, -26, -1, 26, 31, 32, 33, 97, Integer.MAX_VALUE};
        for (int letter : wrong) {
            for (boolean is : new boolean[] {false, true}) {
                String told = letter + ", " + is;
                EDGE.refused("differ(0, " + told + ")", false, PromiseEdgeTest::full, tool -> tool.it.differ(0, letter, is));
                EDGE.refused("differ(" + told + " with 0)", false, PromiseEdgeTest::full, tool -> tool.it.differ(letter, 0, is));
                EDGE.refused("differ of two " + told, false, PromiseEdgeTest::full, tool -> tool.it.differ(letter, letter, is));
            }
        }
        for (int letter : new int[] {0, 1, 25}) {
            EDGE.refused("alike " + letter, false, PromiseEdgeTest::full, tool -> tool.it.differ(letter, letter, true));
            EDGE.refused("alike " + letter, false, PromiseEdgeTest::full, tool -> tool.it.differ(letter, letter, false));
        }
        EDGE.refused("they must already", false, PromiseEdgeTest::full, tool -> tool.it.differ(0, 1, true));
        EDGE.refused("so must they", false, PromiseEdgeTest::full, tool -> tool.it.differ(1, 0, true));
        EDGE.refused("they need not already", false, PromiseEdgeTest::full, tool -> tool.it.differ(0, 2, false));
        EDGE.refused("so need they not", false, PromiseEdgeTest::full, tool -> tool.it.differ(2, 0, false));
    }

    private static void p7Nodes() {
        EDGE.of("7", "How many NODES the TEXT has.");
        EDGE.due("one", 1, tool(" a ", "a", "a").it.nodes());
        EDGE.due("one with ( )", 1, tool("a()", "a", "a").it.nodes());
        EDGE.due("120", 120, tool("a(" + "a,".repeat(118) + "a)", "a", "a").it.nodes());
        Tool tool = tool("f(a,a)", "a", "a(b)");
        tool.it.put(0);
        EDGE.due("after put", 5, tool.it.nodes());
        tool.it.back();
        EDGE.due("after back", 3, tool.it.nodes());
    }

    private static void p8Node() {
        EDGE.of("8", "Of a NODE: 0 its SPAN's first byte, 1 the byte behind it, 2 how many TERMS, 3 the NODE that it is one of (NONE).");
        EDGE.due("one alone", "0-1 0 of -1", tool("a", "a", "a").spans());
        EDGE.due("one with ( )", "1-4 0 of -1", tool(" a()", "a", "a").spans());
        EDGE.due("several", "0-13 2 of -1; 2-7 1 of 0; 4-6 0 of 1; 9-11 0 of 0", tool("f(g(ab), cd )", "a", "a").spans());
        Tool tool = tool("a(" + "a,".repeat(118) + "a)", "a", "a");
        EDGE.due("as many TERMS as can be", 119, tool.it.node(0, 2));
        EDGE.due("as far as can be", 240, tool.it.node(0, 1));
        EDGE.due("the last one's", 0, tool.it.node(119, 3));
        Tool deep = tool(nested(12, "a"), "a", "a");
        EDGE.due("as deep as can be", 11, deep.it.node(12, 3));
        Tool put = tool("f(a,a)", "a", "bb(c)");
        put.it.put(0);
        EDGE.due("after put", "0-14 2 of -1; 2-7 1 of 0; 5-6 0 of 1; 8-13 1 of 0; 11-12 0 of 3", put.spans());
    }

    private static void p8Others() {
        EDGE.of("8", "NONE for others.");
        Tool tool = tool("f(a,b)", "a", "a");
        for (int node : new int[] {Integer.MIN_VALUE, -1, 3, 120, Integer.MAX_VALUE}) {
            for (int what = 0; what < 4; what++) {
                EDGE.due("node(" + node + ", " + what + ")", -1, tool.it.node(node, what));
            }
        }
        for (int what : new int[] {Integer.MIN_VALUE, -1, 4, Integer.MAX_VALUE}) {
            EDGE.due("node(1, " + what + ")", -1, tool.it.node(1, what));
        }
        tool.take(0, "c");
        EDGE.due("one of an earlier text", -1, tool.it.node(2, 0));
    }

    private static void p9Alike() {
        EDGE.of("9", "Whether two NODES are ALIKE.");
        Tool tool = tool("f(a,b,a,g(a))", "b", "a");
        EDGE.due("two", true, tool.it.alike(1, 3));
        EDGE.due("two that are not", false, tool.it.alike(1, 2));
        EDGE.due("the last one", true, tool.it.alike(1, 5));
        EDGE.due("one and itself", true, tool.it.alike(5, 5));
        EDGE.due("the first and itself", true, tool.it.alike(0, 0));
        tool.it.put(0);
        EDGE.due("after put", true, tool.it.alike(1, 2));
        tool.it.back();
        EDGE.due("after back", false, tool.it.alike(1, 2));
    }

    private static void p9Others() {
        EDGE.of("9", "False for others.");
        Tool tool = tool("f(a,a)", "a", "a");
        for (int node : new int[] {Integer.MIN_VALUE, -1, 3, 120, Integer.MAX_VALUE}) {
            EDGE.due("alike(" + node + ", 0)", false, tool.it.alike(node, 0));
            EDGE.due("alike(0, " + node + ")", false, tool.it.alike(0, node));
            EDGE.due("alike of two " + node, false, tool.it.alike(node, node));
        }
        tool.take(0, "a");
        EDGE.due("those of an earlier text", false, tool.it.alike(1, 2));
    }

    private static void p10Matches() {
        EDGE.of("10", "How many NODES the PATTERN MATCHES.");
        Tool tool = tool("f(" + "a,".repeat(118) + "a)", "b", "c");
        EDGE.due("none", 0, tool.it.matches());
        tool.take(1, "?x");
        EDGE.due("all", 120, tool.it.matches());
        tool.take(1, "a");
        EDGE.due("all but one", 119, tool.it.matches());
        tool.it.put(0);
        EDGE.due("after put", 0, tool.it.matches());
        tool.it.back();
        EDGE.due("after back", 119, tool.it.matches());
        tool.take(0, "a");
        EDGE.due("of another text", 1, tool.it.matches());
    }

    private static void p11Match() {
        EDGE.of("11", "The i-th of them.");
        Tool tool = tool("f(a,b,g(a))", "a", "b");
        EDGE.due("the first", 1, tool.it.match(0));
        EDGE.due("the last", 4, tool.it.match(1));
        tool.take(0, "a");
        EDGE.due("the first of another text", 0, tool.it.match(0));
        tool.take(0, "a(" + "a,".repeat(118) + "a)");
        tool.take(1, "?x");
        EDGE.due("the last of all", 119, tool.it.match(119));
        EDGE.due("none behind", -1, tool.it.match(120));
    }

    private static void p11Without() {
        EDGE.of("11", "NONE without.");
        Tool tool = tool("f(a,b,g(a))", "a", "b");
        for (int i : new int[] {Integer.MIN_VALUE, -1, 2, 3, Integer.MAX_VALUE}) {
            EDGE.due("match(" + i + ")", -1, tool.it.match(i));
        }
        tool.it.put(0);
        EDGE.due("of none", -1, tool.it.match(0));
        EDGE.due("of one", -1, new Tool().it.match(1));
    }

    private static void p12HoleAndRow() {
        EDGE.of("12", "What a letter is as a NODE is matched: of HOLES the NODE; of ROWS its first NODE.");
        Tool tool = tool("f(g(1,2,3),g(4))", "g(?a,*z)", "a");
        EDGE.due("a hole", 2, tool.it.hole(1, 0));
        EDGE.due("a row", 3, tool.it.hole(1, 25));
        EDGE.due("of the last one", 6, tool.it.hole(5, 0));
        tool.take(1, "?z");
        EDGE.due("the node itself", 6, tool.it.hole(6, 25));
        EDGE.due("the first node", 0, tool.it.hole(0, 25));
    }

    private static void p12NotMatchedNoLetterRowOfNone() {
        EDGE.of("12", "NONE: not matched, no such letter, a ROW of none.");
        Tool tool = tool("f(g(1),g,2)", "g(?a,*z)", "g(?a,?b,*c)");
        EDGE.due("a row of none", -1, tool.it.hole(1, 25));
        EDGE.due("a hole beside it", 2, tool.it.hole(1, 0));
        EDGE.due("not matched", -1, tool.it.hole(3, 0));
        for (int node : new int[] {Integer.MIN_VALUE, -1, 5, 120, Integer.MAX_VALUE}) {
            EDGE.due("no node " + node, -1, tool.it.hole(node, 0));
        }
        for (int letter : new int[] {Integer.MIN_VALUE, -1, 26, 32, 97, Integer.MAX_VALUE}) {
            EDGE.due("no letter " + letter, -1, tool.it.hole(1, letter));
        }
        EDGE.due("a letter of the template alone", -1, tool.it.hole(1, 1));
        tool.take(1, "g(?b)");
        EDGE.due("a letter of an earlier pattern", -1, tool.it.hole(1, 0));
    }

    private static void p13HowMany() {
        EDGE.of("13", "How many NODES a ROW's letter is then (a HOLE's: 1).");
        Tool tool = tool("f(g(1,2,3),g(4))", "g(?a,*z)", "a");
        EDGE.due("two", 2, tool.it.row(1, 25));
        EDGE.due("none", 0, tool.it.row(5, 25));
        EDGE.due("a hole", 1, tool.it.row(1, 0));
        tool.take(0, "g(" + "a(),".repeat(58) + "a())");
        EDGE.due("many", 58, tool.it.row(0, 25));
        tool.take(1, "?a");
        EDGE.due("a hole that is many nodes", 1, tool.it.row(0, 0));
    }

    private static void p13NotMatchedNoLetter() {
        EDGE.of("13", "NONE: not matched, no such letter.");
        Tool tool = tool("f(g(1),g,2)", "g(?a,*z)", "g(?a,?b,*c)");
        EDGE.due("not matched", -1, tool.it.row(3, 0));
        EDGE.due("not matched", -1, tool.it.row(3, 25));
        for (int node : new int[] {Integer.MIN_VALUE, -1, 5, 120, Integer.MAX_VALUE}) {
            EDGE.due("no node " + node, -1, tool.it.row(node, 25));
        }
        for (int letter : new int[] {Integer.MIN_VALUE, -1, 26, 32, 97, Integer.MAX_VALUE}) {
            EDGE.due("no letter " + letter, -1, tool.it.row(1, letter));
        }
        EDGE.due("a letter of the template alone", -1, tool.it.row(1, 2));
        tool.take(1, "g(?b)");
        EDGE.due("a letter of an earlier pattern", -1, tool.it.row(1, 25));
    }

    private static void p14Taken() {
        EDGE.of("14", "How many are TAKEN by a rule.");
        Tool tool = tool("f(s(s(1)),s(s(2),s(3)))", "s(*r)", "t");
        EDGE.due("rule 0", 2, tool.it.taken(0));
        EDGE.due("rule 1", 3, tool.it.taken(1));
        EDGE.due("rule 2", 3, tool.it.taken(2));
        tool.it.put(0);
        for (int rule = 0; rule < 3; rule++) {
            EDGE.due("none by rule " + rule, 0, tool.it.taken(rule));
        }
        tool.take(0, "f(" + "a,".repeat(118) + "a)");
        tool.take(1, "?x");
        EDGE.due("one of all", 1, tool.it.taken(0));
        EDGE.due("all but one", 119, tool.it.taken(1));
        EDGE.due("all but one", 119, tool.it.taken(2));
    }

    private static void p14NoRule() {
        EDGE.of("14", "NONE: no such rule.");
        Tool tool = tool("f(a)", "a", "a");
        for (int rule : new int[] {Integer.MIN_VALUE, -1, 3, Integer.MAX_VALUE}) {
            EDGE.due("taken(" + rule + ")", -1, tool.it.taken(rule));
        }
    }

    private static void p15Rising() {
        EDGE.of("15", "The i-th TAKEN by a rule (rising).");
        Tool tool = tool("f(s(s(1)),s(s(2),s(3)))", "s(*r)", "t");
        EDGE.due("rule 0", "1 4", tool.takes(0));
        EDGE.due("rule 1", "2 5 7", tool.takes(1));
        EDGE.due("rule 2", "1 5 7", tool.takes(2));
        EDGE.due("one rule behind another", 4, tool.it.takes(0, 1));
        EDGE.due("and back", 5, tool.it.takes(1, 1));
        tool.take(0, "f(" + "a,".repeat(118) + "a)");
        tool.take(1, "?x");
        EDGE.due("the last of all but one", 119, tool.it.takes(1, 118));
        EDGE.due("none behind", -1, tool.it.takes(1, 119));
    }

    private static void p15Without() {
        EDGE.of("15", "NONE without.");
        Tool tool = tool("f(a,b)", "?x", "a");
        for (int rule : new int[] {Integer.MIN_VALUE, -1, 3, Integer.MAX_VALUE}) {
            EDGE.due("takes(" + rule + ", 0)", -1, tool.it.takes(rule, 0));
        }
        for (int i : new int[] {Integer.MIN_VALUE, -1, 2, Integer.MAX_VALUE}) {
            EDGE.due("takes(1, " + i + ")", -1, tool.it.takes(1, i));
        }
        EDGE.due("the second of one", -1, tool.it.takes(0, 1));
        tool.take(1, "c");
        for (int rule = 0; rule < 3; rule++) {
            EDGE.due("the first of none by rule " + rule, -1, tool.it.takes(rule, 0));
        }
    }

    private static void p16HowManyWereTaken() {
        EDGE.of("16", "PUTTING by a rule: how many were TAKEN (with 0 the TEXT is kept to go back to all the same).");
        Tool tool = tool("s(s(1),s(2))", "s(*r)", "t");
        EDGE.due("by rule 0", 1, tool.it.put(0));
        EDGE.due("text", "t", tool.text());
        EDGE.due("none", 0, tool.it.put(1));
        EDGE.due("text", "t", tool.text());
        EDGE.due("kept all the same", 2, tool.it.count(4));
        EDGE.due("back to the same", true, tool.it.back());
        EDGE.due("text", "t", tool.text());
        EDGE.due("back", true, tool.it.back());
        EDGE.due("text", "s(s(1),s(2))", tool.text());
        EDGE.due("by rule 1", 2, tool.it.put(1));
        EDGE.due("text", "s(t,t)", tool.text());
        tool.it.back();
        EDGE.due("by rule 2", 2, tool.it.put(2));
        EDGE.due("text", "s(t,t)", tool.text());
        Tool many = tool("f(" + "a,".repeat(118) + "a)", "a", "b");
        EDGE.due("many", 119, many.it.put(2));
        EDGE.due("text", "f(" + "b,".repeat(118) + "b)", many.text());
    }

    private static void p16NoRuleOrLetter() {
        EDGE.of("16", "-2: no such rule, the TEMPLATE has a letter that the PATTERN has not (as the same kind);");
        for (int rule : new int[] {Integer.MIN_VALUE, -1, 3, Integer.MAX_VALUE}) {
            EDGE.refused("put(" + rule + ")", -2, PromiseEdgeTest::full, tool -> tool.it.put(rule));
        }
        String[] templates = {"?c", "g(?a,h(?c))", "g(*c)", "g(*a)", "g(*z)", "?z"};
        for (String template : templates) {
            EDGE.refused("put(0) of '" + template + "'", -2, () -> fullWithTemplate(template), tool -> tool.it.put(0));
        }
        EDGE.due("a hole for a row", -2, tool("f(1)", "f(*a)", "g(?a)").it.put(0));
        EDGE.due("a row for a hole", -2, tool("f(1)", "f(?a)", "g(*a)").it.put(0));
        EDGE.due("even if nothing is taken", -2, tool("f(1)", "g(?a)", "g(?b)").it.put(0));
        EDGE.due("a hole that the pattern has", 1, tool("f(1)", "f(?z)", "?z").it.put(0));
        EDGE.due("a row that the pattern has", 1, tool("f(1)", "f(*z)", "g(*z)").it.put(0));
        EDGE.due("fewer letters than the pattern", 1, tool("f(1)", "f(?a,*b)", "g(*b)").it.put(0));
    }

    private static Tool fullWithTemplate(String template) {
        Tool tool = full();
        tool.take(2, template);
        tool.feed("k(4)");
        return tool;
    }

    private static void p16LongerThan240() {
        EDGE.of("16", "the TEXT would be longer than 240 bytes,");
        longerThan240(" ".repeat(238) + "a", "a", "bc", "bcd");
        longerThan240("a" + " ".repeat(238), "a", "bc", "bcd");
        longerThan240("f(" + "a".repeat(118) + ")", "f(?x)", "g(?x,?x)", "g(?x, ?x)");
        longerThan240("f(1," + "a".repeat(57) + "," + "b".repeat(57) + ")", "f(?x,*r)", "g(*r,*r,?x,123)", "g(*r,*r,?x,1234)");
        longerThan240("f(a,a)" + " ".repeat(232), "a", "bc", "bcd");
        Tool rest = tool("f(a," + "b".repeat(235) + ")", "a", "ac");
        EDGE.due("by the last byte of the rest", -2, rest.it.put(0));
        EDGE.due("the text is as it was", 240, rest.it.count(0));
        EDGE.due("its nodes too", "0-240 2 of -1; 2-3 0 of 0; 4-239 0 of 0", rest.spans());
    }

    private static void longerThan240(String text, String pattern, String fits, String tooLong) {
        Tool tool = tool(text, pattern, fits);
        EDGE.due("240 bytes by '" + fits + "'", true, tool.it.put(0) > 0);
        EDGE.due("240 bytes by '" + fits + "'", 240, tool.it.count(0));
        Tool longer = tool(text, pattern, tooLong);
        EDGE.due("more by '" + tooLong + "'", -2, longer.it.put(0));
        EDGE.due("nothing to go back to", 0, longer.it.count(4));
        EDGE.due("the text is as it was", text, longer.text());
    }

    private static void p16DeeperThanTwelve() {
        EDGE.of("16", "or deeper than twelve (.");
        deeperThanTwelve(nested(11, "x"), "x", "x(y)", "x(y(z))");
        deeperThanTwelve(nested(11, "x"), "x", "x()", "x(y())");
        deeperThanTwelve("f(" + nested(10, "x") + ")", "f(?a)", "f(g(?a))", "f(g(h(?a)))");
        deeperThanTwelve("f(1," + nested(10, "x") + ",2)", "f(*a)", "f(g(*a))", "f(g(h(*a)))");
        deeperThanTwelve("f(x," + nested(11, "x") + ")", "x", "x", "x()");
        EDGE.due("twelve by the template alone", 1, tool("x", "x", nested(12, "")).it.put(0));
        Tool tool = tool("f(x)", "x", nested(12, ""));
        EDGE.due("thirteen by the template in the text", -2, tool.it.put(1));
        EDGE.due("the text is as it was", "f(x)", tool.text());
        Tool beside = tool("f(" + nested(11, "x") + ",y,y)", "y", nested(11, "y"));
        EDGE.due("twelve beside twelve", 2, beside.it.put(0));
    }

    private static void deeperThanTwelve(String text, String pattern, String fits, String tooDeep) {
        Tool tool = tool(text, pattern, fits);
        EDGE.due("twelve by '" + fits + "'", true, tool.it.put(0) > 0);
        Tool deeper = tool(text, pattern, tooDeep);
        EDGE.due("thirteen by '" + tooDeep + "'", -2, deeper.it.put(0));
        EDGE.due("nothing to go back to", 0, deeper.it.count(4));
        EDGE.due("the text is as it was", text, deeper.text());
    }

    private static void p17TillNothingIsTaken() {
        EDGE.of("17", "PUTTING again and again, till nothing is TAKEN: how often something was.");
        Tool tool = tool("s(s(s(z)),s(y))", "s(*r)", "t(*r)");
        EDGE.due("by rule 0", 3, tool.it.putAll(0));
        EDGE.due("text", "t(t(t(z)),t(y))", tool.text());
        EDGE.due("none", 0, tool.it.putAll(0));
        EDGE.due("text", "t(t(t(z)),t(y))", tool.text());
        tool.take(0, "s(s(s(z)),s(y))");
        EDGE.due("by rule 1", 3, tool.it.putAll(1));
        tool.it.back();
        EDGE.due("by rule 2", 3, tool.it.putAll(2));
        EDGE.due("text", "t(t(t(z)),t(y))", tool.text());
        EDGE.due("several at once", 1, tool("f(a,a)", "a", "b").it.putAll(0));
        Tool twenty = tool("f(" + "a,".repeat(20) + "b)", "f(a,*r)", "f(*r)");
        EDGE.due("twenty times", 20, twenty.it.putAll(0));
        EDGE.due("text", "f(b)", twenty.text());
        EDGE.due("one to go back to", 1, twenty.it.count(4));
        EDGE.due("nineteen times", 19, tool("f(" + "a,".repeat(19) + "b)", "f(a,*r)", "f(*r)").it.putAll(0));
    }

    private static void p17AtOnceAsPut() {
        EDGE.of("17", "-2: at once as put();");
        for (int rule : new int[] {Integer.MIN_VALUE, -1, 3, Integer.MAX_VALUE}) {
            EDGE.refused("putAll(" + rule + ")", -2, PromiseEdgeTest::full, tool -> tool.it.putAll(rule));
        }
        for (String template : new String[] {"?c", "g(*a)", "g(?a,*z)"}) {
            EDGE.refused("putAll(0) of '" + template + "'", -2, () -> fullWithTemplate(template), tool -> tool.it.putAll(0));
        }
        EDGE.due("a letter, even if nothing is taken", -2, tool("f(1)", "g(?a)", "g(?b)").it.putAll(0));
        Tool longer = tool("f(a)" + " ".repeat(236), "a", "bc");
        EDGE.due("the first one is too long", -2, longer.it.putAll(0));
        EDGE.due("nothing to go back to", 0, longer.it.count(4));
        Tool deeper = tool(nested(12, "x"), "x", "y()");
        EDGE.due("the first one is too deep", -2, deeper.it.putAll(1));
        EDGE.due("the text is as it was", nested(12, "x"), deeper.text());
    }

    private static void p17NotDoneAfter20() {
        EDGE.of("17", "-1: it was not done after 20 times,");
        Tool tool = tool("f(" + "a,".repeat(21) + "b)", "f(a,*r)", "f(*r)");
        tool.it.put(0);
        tool.it.back();
        EDGE.due("twenty-one times", -1, tool.it.putAll(0));
        EDGE.due("text", "f(" + "a,".repeat(21) + "b)", tool.text());
        EDGE.due("nodes", 23, tool.it.nodes());
        EDGE.due("nothing to go back to", 0, tool.it.count(4));
        EDGE.due("without end", -1, tool("a", "a", "a").it.putAll(2));
        EDGE.refused("putAll(0) that goes to and fro", -1, () -> fullWithTemplate("f(?b,?a)"), other -> other.it.putAll(0));
    }

    private static void p17OneIsRefused() {
        EDGE.of("17", "or one of these was refused: then the TEXT is as before all.");
        EDGE.refused("putAll(0) that grows too deep", -1, () -> fullWithTemplate("f(g(?a),?b)"), tool -> tool.it.putAll(0));
        EDGE.refused("putAll(0) that grows too long", -1, () -> fullWithTemplate("f(g(?a,?a),g(?b,?b))"), tool -> tool.it.putAll(0));
        String text = "f(" + "a".repeat(70) + ")";
        Tool second = tool(text, "f(?x)", "f(g(?x,?x))");
        EDGE.due("the second one is too long", -1, second.it.putAll(0));
        EDGE.due("text", text, second.text());
        EDGE.due("matches", "0", second.matches());
        EDGE.due("nothing to go back to", 0, second.it.count(4));
    }

    private static void p17OneToGoBackTo() {
        EDGE.of("17", "(One to go back to.)");
        Tool tool = tool("s(s(s(z)))", "s(?x)", "t(?x)");
        EDGE.due("three times", 3, tool.it.putAll(0));
        EDGE.due("one", 1, tool.it.count(4));
        EDGE.due("none was taken", 0, tool.it.putAll(0));
        EDGE.due("one more", 2, tool.it.count(4));
        EDGE.due("back", true, tool.it.back());
        EDGE.due("text", "t(t(t(z)))", tool.text());
        EDGE.due("back", true, tool.it.back());
        EDGE.due("text", "s(s(s(z)))", tool.text());
        EDGE.due("no more", false, tool.it.back());
    }

    private static void p18Latest() {
        EDGE.of("18", "The TEXT is as it was ahead of the latest put() or putAll() that was done and not taken back");
        Tool tool = tool(" c( a ) ", "c(*r)", "c(*r,b)");
        tool.it.put(0);
        tool.it.put(0);
        EDGE.due("back", true, tool.it.back());
        EDGE.due("one put is taken back", " c(a,b) ", tool.text());
        tool.take(2, "d(*r)");
        EDGE.due("another put", 1, tool.it.putAll(0));
        EDGE.due("a refused one", -2, tool.it.put(3));
        EDGE.due("a refused one", -2, tool.it.putAll(3));
        EDGE.due("back", true, tool.it.back());
        EDGE.due("it is taken back", " c(a,b) ", tool.text());
        tool.take(2, "c(*r)");
        EDGE.due("one that was not done", -1, tool.it.putAll(0));
        EDGE.due("back", true, tool.it.back());
        EDGE.due("the first one is taken back, exactly", " c( a ) ", tool.text());
        EDGE.due("no more", false, tool.it.back());
        EDGE.due("its nodes", "1-7 1 of -1; 4-5 0 of 0", tool.spans());
    }

    private static String grown(int times) {
        return "c(a" + ",a".repeat(times) + ")";
    }

    private static void p18LatestTen() {
        EDGE.of("18", "(the latest ten).");
        for (int puts : new int[] {9, 10, 11, 12, 21, 22, 23}) {
            Tool tool = tool("c(a)", "c(*r)", "c(*r,a)");
            for (int k = 0; k < puts; k++) {
                tool.it.put(0);
            }
            int kept = Math.min(puts, 10);
            EDGE.due("kept of " + puts, kept, tool.it.count(4));
            for (int k = 1; k <= kept; k++) {
                EDGE.due("back", true, tool.it.back());
                EDGE.due("bytes " + k + " back of " + puts, grown(puts - k).length(), tool.it.count(0));
                EDGE.due("left", kept - k, tool.it.count(4));
            }
            EDGE.due("no more of " + puts, false, tool.it.back());
            EDGE.due("text", grown(puts - kept), tool.text());
            EDGE.due("put again", 1, tool.it.put(0));
            EDGE.due("and back", true, tool.it.back());
            EDGE.due("text", grown(puts - kept), tool.text());
        }
        tenStayWhenOneIsNotDone();
        Tool full = tool("c(a)", "c(*r)", "c(*r,a)");
        for (int k = 0; k < 11; k++) {
            full.it.put(0);
        }
        EDGE.due("one that is not done", -1, full.it.putAll(0));
        EDGE.due("a refused one", -2, full.it.put(3));
        full.take(1, "x(*r)");
        EDGE.due("one of none", 0, full.it.put(0));
        for (int k = 11; k >= 2; k--) {
            EDGE.due("back", true, full.it.back());
            EDGE.due("bytes", grown(k).length(), full.it.count(0));
        }
        EDGE.due("no more", false, full.it.back());
        EDGE.due("text", grown(2), full.text());
    }

    private static void tenStayWhenOneIsNotDone() {
        Tool tool = tool("c(a)", "c(*r)", "c(*r,a)");
        for (int k = 0; k < 10; k++) {
            tool.it.put(0);
        }
        tool.take(2, "c(d(*r))");
        EDGE.due("too deep in the end", -1, tool.it.putAll(0));
        tool.take(1, "a");
        tool.take(2, "b".repeat(80));
        EDGE.due("too long", -2, tool.it.put(0));
        EDGE.due("too long", -2, tool.it.putAll(0));
        EDGE.due("no such rule", -2, tool.it.put(3));
        EDGE.due("ten still", 10, tool.it.count(4));
        for (int k = 9; k >= 0; k--) {
            EDGE.due("back", true, tool.it.back());
            EDGE.due("text", grown(k), tool.text());
        }
        EDGE.due("no more", false, tool.it.back());
    }

    private static void p18None() {
        EDGE.of("18", "False: none.");
        EDGE.due("a new object", false, new Tool().it.back());
        EDGE.refused("back()", false, () -> {
            Tool tool = full();
            tool.it.back();
            tool.it.back();
            return tool;
        }, tool -> tool.it.back());
        Tool tool = tool("a", "a", "b");
        EDGE.due("a refused put leaves none", -2, tool.it.put(3));
        EDGE.due("back", false, tool.it.back());
        tool.it.put(0);
        tool.take(0, "a");
        EDGE.due("none behind another text", false, tool.it.back());
        EDGE.due("text", "a", tool.text());
    }

    private static void p19Byte() {
        EDGE.of("19", "Byte i of the TEXT.");
        Tool tool = tool("\nz( 09 ) ", "z(?x)", "?x");
        EDGE.due("the first", "10", tool.at(0));
        EDGE.due("the last", "32", tool.at(8));
        EDGE.due("all", "\nz( 09 ) ", tool.text());
        tool.it.put(0);
        EDGE.due("after put", "\n09 ", tool.text());
        Tool full = tool("a".repeat(239) + "b", "a", "a");
        EDGE.due("byte 239 of 240", "98", full.at(239));
    }

    private static void p19NoByte() {
        EDGE.of("19", "NoSuchElementException: there is none.");
        Tool tool = tool("f(abc)", "f(?x)", "?x");
        for (int i : new int[] {Integer.MIN_VALUE, -1, 6, 7, 239, 240, 260, Integer.MAX_VALUE}) {
            EDGE.due("at(" + i + ")", "throws", tool.at(i));
        }
        tool.it.put(0);
        EDGE.due("the last one after put", "99", tool.at(2));
        EDGE.due("behind it after put", "throws", tool.at(3));
        EDGE.due("behind 240", "throws", tool("a".repeat(240), "a", "a").at(240));
        EDGE.refused("at(99)", "throws", PromiseEdgeTest::full, other -> other.at(99));
    }

    private static void p20Counts() {
        EDGE.of("20", "0 bytes of the TEXT, 1 of the PATTERN, 2 of the TEMPLATE, 3 of the TAPE, 4 how often can be gone back.");
        Tool tool = tool(" a ", "?x  ", "b    ");
        tool.feed("abcdef");
        for (int what = 0; what < 4; what++) {
            EDGE.due("count(" + what + ")", what + 3, tool.it.count(what));
        }
        EDGE.due("never", 0, tool.it.count(4));
        for (int k = 1; k < 13; k++) {
            tool.it.put(0);
            EDGE.due("after " + k, Math.min(k, 10), tool.it.count(4));
        }
        Tool full = tool("a".repeat(240), "a".repeat(80), "b".repeat(80));
        full.feed("c".repeat(240));
        int[] most = {240, 80, 80, 240};
        for (int what = 0; what < 4; what++) {
            EDGE.due("the most of count(" + what + ")", most[what], full.it.count(what));
        }
    }

    private static void p20Others() {
        EDGE.of("20", "NONE for others.");
        for (int what : new int[] {Integer.MIN_VALUE, -2, -1, 5, 6, Integer.MAX_VALUE}) {
            EDGE.refused("count(" + what + ")", -1, PromiseEdgeTest::full, tool -> tool.it.count(what));
        }
    }

    private static void refusedChangesNothing() {
        EDGE.of("Terms 2", "What is refused answers as told and changes nothing.");
        EDGE.refused("feed", -1, () -> fullWith("k" + "4".repeat(238)), tool -> tool.it.feed(0x28, 0, 0, 0, 0x29));
        EDGE.refused("end(5)", false, PromiseEdgeTest::full, tool -> tool.it.end(5));
        EDGE.refused("fault(3)", -2, PromiseEdgeTest::full, tool -> tool.it.fault(3));
        EDGE.refused("take(3)", false, PromiseEdgeTest::full, tool -> tool.it.take(3));
        EDGE.refused("take(0)", false, () -> fullWith("k(4"), tool -> tool.it.take(0));
        EDGE.refused("take(1)", false, () -> fullWith("f(?a"), tool -> tool.it.take(1));
        EDGE.refused("take(2)", false, () -> fullWith("f(?a"), tool -> tool.it.take(2));
        EDGE.refused("differ(0, 1, true)", false, PromiseEdgeTest::full, tool -> tool.it.differ(0, 1, true));
        EDGE.refused("node(9, 0)", -1, PromiseEdgeTest::full, tool -> tool.it.node(9, 0));
        EDGE.refused("alike(0, 9)", false, PromiseEdgeTest::full, tool -> tool.it.alike(0, 9));
        EDGE.refused("match(9)", -1, PromiseEdgeTest::full, tool -> tool.it.match(9));
        EDGE.refused("hole(2, 0)", -1, PromiseEdgeTest::full, tool -> tool.it.hole(2, 0));
        EDGE.refused("row(2, 0)", -1, PromiseEdgeTest::full, tool -> tool.it.row(2, 0));
        EDGE.refused("taken(3)", -1, PromiseEdgeTest::full, tool -> tool.it.taken(3));
        EDGE.refused("takes(1, 9)", -1, PromiseEdgeTest::full, tool -> tool.it.takes(1, 9));
        EDGE.refused("put(3)", -2, PromiseEdgeTest::full, tool -> tool.it.put(3));
        String deep = "a(a(a(a(a(a(a(a(a(a(a(a(?a))))))))))))";
        EDGE.refused("put(0) too deep", -2, () -> fullWithPutting("g(?a,*r)", "g(" + deep + ")"), tool -> tool.it.put(0));
        EDGE.refused("putAll(0) too deep", -2, () -> fullWithPutting("g(?a,*r)", "g(" + deep + ")"), tool -> tool.it.putAll(0));
        EDGE.refused("putAll(0) without end", -1, () -> fullWithPutting("g(*r)", "g(*r)"), tool -> tool.it.putAll(0));
        EDGE.refused("at(13)", "throws", PromiseEdgeTest::full, tool -> tool.at(13));
        EDGE.refused("count(5)", -1, PromiseEdgeTest::full, tool -> tool.it.count(5));
    }

    private static Tool fullWithPutting(String pattern, String template) {
        Tool tool = full();
        tool.take(1, pattern);
        tool.take(2, template);
        tool.feed("k(4)");
        return tool;
    }
}
