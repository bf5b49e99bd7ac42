/** One test for each sentence of the document's Terms, ahead of its part 2, that names a boundary case. */
public final class TermsEdgeTest {
    private static final int TEXT = 0;
    private static final int PATTERN = 1;
    private static final int TEMPLATE = 2;
    private static final int[] ALL = {TEXT, PATTERN, TEMPLATE};
    private static final int[] SHAPES = {PATTERN, TEMPLATE};

    private static final Edge EDGE = new Edge();

    public static void main(String[] args) {
        term();
        atom();
        blanks();
        textOfAtMost240();
        nodesNumbered();
        span();
        alike();
        patternOfAtMost80();
        patternIsAPiece();
        hole();
        deep();
        row();
        templateOfAtMost80WithoutDeep();
        noBlanksAheadOfALetter();
        aLetterIsOfOneKind();
        twoRowsAndOneDeep();
        faultIsTheFirstByteOrTheEnd();
        thirteenthOpening();
        thirdRowSecondDeepRowWithinDeep();
        letterOfTheOtherKind();
        EDGE.finish();
    }

    private static boolean isSmall(int c) {
        return c >= 'a' && c <= 'z';
    }

    private static boolean isOfAtom(int c) {
        return isSmall(c) || c >= '0' && c <= '9';
    }

    private static String nested(int opened, String inner) {
        return "a(".repeat(opened) + inner + ")".repeat(opened);
    }

    private static void term() {
        EDGE.of("Terms", "TERM: an ATOM, or an ATOM and ( TERMS with , between, or none ).");
        for (int what : ALL) {
            EDGE.fault(what, "a", -1);
            EDGE.fault(what, "a()", -1);
            EDGE.fault(what, "a(b)", -1);
            EDGE.fault(what, "a(b,c)", -1);
            EDGE.fault(what, "a(b(),c(d))", -1);
            EDGE.fault(what, "()", 0);
            EDGE.fault(what, "(a)", 0);
            EDGE.fault(what, ",", 0);
            EDGE.fault(what, ")", 0);
            EDGE.fault(what, "a(,b)", 2);
            EDGE.fault(what, "a(b,)", 4);
            EDGE.fault(what, "a(b,,c)", 4);
            EDGE.fault(what, "a(b c)", 4);
            EDGE.fault(what, "a(b()c)", 5);
            EDGE.fault(what, "a((b))", 2);
            EDGE.fault(what, "a()()", 3);
            EDGE.fault(what, "a()(", 3);
            EDGE.fault(what, "a(b())c", 6);
            EDGE.fault(what, "a)", 1);
            EDGE.fault(what, "a(b))", 4);
            EDGE.fault(what, "a,b", 1);
            EDGE.fault(what, "a(b),c", 4);
        }
    }

    private static void atom() {
        EDGE.of("Terms", "ATOM: letters a .. z and digits, one or more (as many as come).");
        for (int c = 1; c < 256; c++) {
            if (c != ' ' && c != '\n') {
                EDGE.fault(TEXT, "" + (char) c, isOfAtom(c) ? -1 : 0);
                EDGE.fault(TEXT, "f(" + (char) c, isOfAtom(c) ? 3 : c == ')' ? -1 : 2);
                EDGE.fault(TEXT, "a" + (char) c + "0", isOfAtom(c) ? -1 : c == '(' ? 3 : 1);
            }
        }
        Tool tool = new Tool().with("az09(0,9z)", "a", "a");
        EDGE.due("all that come are one", "0-10 2 of -1; 5-6 0 of 0; 7-9 0 of 0", tool.spans());
        tool.take(0, "a".repeat(239) + "9");
        EDGE.due("as many as there can be", "0-240 0 of -1", tool.spans());
        EDGE.matches("f(a,aa,aaa)", "aa", "2");
        EDGE.matches("f(a,aa,aaa)", "aaaa", "");
    }

    private static void blanks() {
        EDGE.of("Terms", "BLANKS (32, 10) may stand between all these, ahead and behind.");
        String[] between = {"", "f", "(", "g", "(", ")", ",", "h", ")"};
        for (int place = 0; place < between.length; place++) {
            StringBuilder ahead = new StringBuilder();
            StringBuilder behind = new StringBuilder();
            for (int k = 0; k < between.length; k++) {
                (k <= place ? ahead : behind).append(between[k]);
            }
            for (int what : ALL) {
                for (String blanks : new String[] {" ", "\n", "  ", "\n\n", " \n "}) {
                    EDGE.fault(what, ahead + blanks + behind, -1);
                }
                for (char other : new char[] {1, 9, 11, 13, 31, 33, 42 + 128, 160, 255}) {
                    EDGE.fault(what, ahead + "" + other + behind, ahead.length());
                }
            }
        }
        EDGE.fault(PATTERN, " @ \n( \n?a \n)\n", -1);
        EDGE.fault(PATTERN, " f ( *a , ?b ) ", -1);
        EDGE.fault(TEMPLATE, "\nf\n(\n*a\n,\n?b\n)\n", -1);
        EDGE.fault(TEXT, "a b", 2);
        EDGE.fault(TEXT, "a\nb", 2);
        EDGE.fault(TEXT, "f(1 2)", 4);
    }

    private static void textOfAtMost240() {
        EDGE.of("Terms", "TEXT (240 bytes at most): one TERM.");
        EDGE.fault(TEXT, "", 0);
        EDGE.fault(TEXT, " ", 1);
        EDGE.fault(TEXT, " ".repeat(240), 240);
        EDGE.fault(TEXT, "a".repeat(240), -1);
        EDGE.fault(TEXT, "a" + " ".repeat(239), -1);
        EDGE.fault(TEXT, "\n".repeat(239) + "a", -1);
        EDGE.fault(TEXT, "a(" + "a,".repeat(118) + "a)", -1);
        EDGE.fault(TEXT, "a(" + "a,".repeat(119), 240);
        EDGE.fault(TEXT, "a(" + "a,".repeat(118) + "aa", 240);
        EDGE.fault(TEXT, "a(" + "a,".repeat(118) + "a,", 240);
        EDGE.fault(TEXT, "a(b) c", 5);
        Tool tool = new Tool();
        tool.feed(" ".repeat(117) + "f(a)" + " ".repeat(119));
        EDGE.due("240 bytes are taken", true, tool.it.take(0));
        EDGE.due("all of them", 240, tool.it.count(0));
    }

    private static void nodesNumbered() {
        EDGE.of("Terms", "Its NODES are its TERMS, numbered 0, 1, .. as their ATOMS come");
        Tool tool = new Tool().with("a", "a", "a");
        EDGE.due("one", "0-1 0 of -1", tool.spans());
        tool.take(0, "f(g(x(),y),h(z),i)");
        EDGE.due("within ahead of beside",
                "0-18 3 of -1; 2-10 2 of 0; 4-7 0 of 1; 8-9 0 of 1; 11-15 1 of 0; 13-14 0 of 4; 16-17 0 of 0", tool.spans());
        tool.take(0, "a(" + "a,".repeat(118) + "a)");
        EDGE.due("as many as 240 bytes can hold", 120, tool.it.nodes());
        EDGE.due("the last one of these", 238, tool.it.node(119, 0));
        EDGE.due("it ends ahead of the )", 239, tool.it.node(119, 1));
        EDGE.due("and none is behind", -1, tool.it.node(120, 0));
    }

    private static void span() {
        EDGE.of("Terms", "SPAN of a NODE: its bytes from its ATOM's first one to its last one (its ), or its ATOM's).");
        Tool tool = new Tool().with(" ab ", "a", "a");
        EDGE.due("blanks ahead and behind are not of it", "1-3 0 of -1", tool.spans());
        tool.take(0, "\nf \n( a , g ( ) \n, h)\n");
        EDGE.due("those within are", "1-21 3 of -1; 6-7 0 of 0; 10-15 0 of 0; 19-20 0 of 0", tool.spans());
    }

    private static void alike(String one, String other, boolean due) {
        Tool tool = new Tool().with("f(" + one + "," + other + ")", "a", "a");
        int second = 2;
        while (second < 120 && tool.it.node(second, 3) != 0) {
            second++;
        }
        EDGE.due("'" + one + "' and '" + other + "'", due, tool.it.alike(1, second));
        EDGE.due("'" + other + "' and '" + one + "'", due, tool.it.alike(second, 1));
    }

    private static void alike() {
        EDGE.of("Terms", "ALIKE are two NODES with one ATOM, both with ( ) or both without, and as many TERMS, ALIKE one by one.");
        alike("a", "a", true);
        alike("a", "b", false);
        alike("a", "aa", false);
        alike("ab", "ac", false);
        alike("ab", "cb", false);
        alike("a()", "a", false);
        alike("a()", "a()", true);
        alike("a ( )", "a()", true);
        alike("a()", "a(b)", false);
        alike("a(b)", "a(b,b)", false);
        alike("a(b,c)", "a(c,b)", false);
        alike("a(b,c)", "a( b\n, c )", true);
        alike("a(b,c)", "a(b,c())", false);
        alike("a(b(c),d)", "a(b(c,d))", false);
        alike("a(b(c,d),d)", "a(b(c,d),d)", true);
        alike("a(b(c,d),d)", "a(b(c,e),d)", false);
        alike("a(b(c,d),d)", "a(b(c,d),e)", false);
        alike("a(b(c),b)", "a(b,b(c))", false);
        alike("a(" + "b,".repeat(20) + "c)", "a(" + "b,".repeat(20) + "c)", true);
        alike("a(" + "b,".repeat(20) + "c)", "a(" + "b,".repeat(20) + "d)", false);
        alike(nested(11, "x"), nested(11, "x"), true);
        alike(nested(11, "x"), nested(11, "y"), false);
        Tool tool = new Tool().with("f(a,f(a))", "a", "a");
        EDGE.due("a node and itself", true, tool.it.alike(2, 2));
        EDGE.due("a node and one within it", false, tool.it.alike(0, 2));
        EDGE.due("the first and the last", false, tool.it.alike(0, 3));
        tool.take(0, "f(b,a,a,b)");
        EDGE.due("a last one where another text had another", true, tool.it.alike(1, 4));
        tool.take(0, "f(a,b,b,a)");
        EDGE.due("and again", false, tool.it.alike(3, 4));
    }

    private static void patternOfAtMost80() {
        EDGE.of("Terms", "A PATTERN (80 bytes at most) is a PIECE:");
        EDGE.fault(PATTERN, "", 0);
        EDGE.fault(PATTERN, " \n", 2);
        EDGE.fault(PATTERN, "a".repeat(80), -1);
        EDGE.fault(PATTERN, "a".repeat(81), -2);
        EDGE.fault(PATTERN, "?a" + " ".repeat(78), -1);
        EDGE.fault(PATTERN, "?a" + " ".repeat(79), -2);
        EDGE.fault(PATTERN, "f(" + "?a,".repeat(25) + "?b)", -1);
        EDGE.fault(PATTERN, "f(" + "?a,".repeat(25) + "?b )", -2);
        EDGE.fault(PATTERN, "f(" + "a,".repeat(38) + "a)", -1);
        EDGE.fault(PATTERN, "a".repeat(240), -2);
        EDGE.fault(PATTERN, "?a ?b", 3);
        String text = "f(" + "a,".repeat(38) + "a)";
        EDGE.matches(text, text, "0");
        EDGE.matches(text, "f(" + "a,".repeat(38) + "b)", "");
        EDGE.letters("f(" + "a,".repeat(25) + "b)", "f(" + "?a,".repeat(25) + "?b)", "a1x1 b26x1");
    }

    private static void patternIsAPiece() {
        EDGE.of("Terms", "a TERM whose TERMS are PIECES or ROWS;");
        for (int what : SHAPES) {
            EDGE.fault(what, "f(a,?b,*c,g(?b,*c))", -1);
            EDGE.fault(what, "*a", 0);
            EDGE.fault(what, " *a", 1);
            EDGE.fault(what, "f(*a)*b", 5);
            EDGE.fault(what, "f(*a *b)", 5);
            EDGE.fault(what, "f(*a,)", 5);
            EDGE.fault(what, "f(*a(b))", 4);
        }
        EDGE.fault(PATTERN, "f(@(a),b)", -1);
        EDGE.fault(TEXT, "f(?a)", 2);
        EDGE.fault(TEXT, "f(*a)", 2);
        EDGE.fault(TEXT, "f(@(a))", 2);
        EDGE.fault(TEXT, "?a", 0);
        EDGE.fault(TEXT, "@(a)", 0);
    }

    private static void hole() {
        EDGE.of("Terms", "or a HOLE: ? and a letter;");
        for (int what : SHAPES) {
            for (int c = 1; c < 256; c++) {
                EDGE.fault(what, "?" + (char) c, isSmall(c) ? -1 : 1);
            }
            EDGE.fault(what, "?", 1);
            EDGE.fault(what, "f(?", 3);
            EDGE.fault(what, "f(?)", 3);
            EDGE.fault(what, "?ab", 2);
            EDGE.fault(what, "?a0", 2);
            EDGE.fault(what, "?a()", 2);
            EDGE.fault(what, "??a", 1);
            EDGE.fault(what, "f(?a?b)", 4);
            EDGE.fault(what, "f?a", 1);
        }
    }

    private static void deep() {
        EDGE.of("Terms", "or DEEP: @ ( PIECE ).");
        EDGE.fault(PATTERN, "@(a)", -1);
        EDGE.fault(PATTERN, "@(?a)", -1);
        EDGE.fault(PATTERN, "@(f(?a,g()))", -1);
        EDGE.fault(PATTERN, "f(@(a))", -1);
        EDGE.fault(PATTERN, "@", 1);
        EDGE.fault(PATTERN, "@ ", 2);
        EDGE.fault(PATTERN, "@a", 1);
        EDGE.fault(PATTERN, "@?a", 1);
        EDGE.fault(PATTERN, "@a(b)", 1);
        EDGE.fault(PATTERN, "@)", 1);
        EDGE.fault(PATTERN, "@,", 1);
        EDGE.fault(PATTERN, "@(", 2);
        EDGE.fault(PATTERN, "@()", 2);
        EDGE.fault(PATTERN, "@( )", 3);
        EDGE.fault(PATTERN, "@(,a)", 2);
        EDGE.fault(PATTERN, "@(a,b)", 3);
        EDGE.fault(PATTERN, "@(?a,b)", 4);
        EDGE.fault(PATTERN, "@(a(),b)", 5);
        EDGE.fault(PATTERN, "@(a", 3);
        EDGE.fault(PATTERN, "@(a()", 5);
        EDGE.fault(PATTERN, "@(a))", 4);
        EDGE.fault(PATTERN, "@(a)(b)", 4);
        EDGE.fault(PATTERN, "a@(b)", 1);
        EDGE.fault(PATTERN, "f(@(a)", 6);
        EDGE.fault(PATTERN, "f(@(a),b)", -1);
    }

    private static void row() {
        EDGE.of("Terms", "ROW: * and a letter.");
        for (int what : SHAPES) {
            for (int c = 1; c < 256; c++) {
                EDGE.fault(what, "f(*" + (char) c + ")", isSmall(c) ? -1 : 3);
            }
            EDGE.fault(what, "f(*", 3);
            EDGE.fault(what, "f(*ab)", 4);
            EDGE.fault(what, "f(*a()", 4);
            EDGE.fault(what, "f(**a)", 3);
            EDGE.fault(what, "f(*a", 4);
            EDGE.fault(what, "f(*a,", 5);
        }
    }

    private static void templateOfAtMost80WithoutDeep() {
        EDGE.of("Terms", "A TEMPLATE (80 bytes at most) is such a PIECE without DEEP.");
        EDGE.fault(TEMPLATE, "", 0);
        EDGE.fault(TEMPLATE, "a".repeat(80), -1);
        EDGE.fault(TEMPLATE, "a".repeat(81), -2);
        EDGE.fault(TEMPLATE, "?a" + "\n".repeat(78), -1);
        EDGE.fault(TEMPLATE, "?a" + "\n".repeat(79), -2);
        EDGE.fault(TEMPLATE, "f(" + "*a,".repeat(25) + "*b)", -1);
        EDGE.fault(TEMPLATE, "a".repeat(240), -2);
        EDGE.fault(TEMPLATE, "@(a)", 0);
        EDGE.fault(TEMPLATE, " @(a)", 1);
        EDGE.fault(TEMPLATE, "f(a,@(b))", 4);
        EDGE.becomes("f(b)", "f(?a)", "f(" + "?a,".repeat(25) + "?a)", "f(" + "b,".repeat(25) + "b)");
        EDGE.becomes("b", "b", "a".repeat(80), "a".repeat(80));
    }

    private static void noBlanksAheadOfALetter() {
        EDGE.of("Terms", "No BLANKS stand between ? or * and its letter.");
        for (int what : SHAPES) {
            EDGE.fault(what, "? a", 1);
            EDGE.fault(what, "?\na", 1);
            EDGE.fault(what, "f(* a)", 3);
            EDGE.fault(what, "f(*\na)", 3);
            EDGE.fault(what, "f( ?a , *b )", -1);
        }
    }

    private static void aLetterIsOfOneKind() {
        EDGE.of("Terms", "A letter is one of HOLES or one of ROWS.");
        for (int what : SHAPES) {
            EDGE.fault(what, "f(?a,?a,?a,g(?a))", -1);
            EDGE.fault(what, "f(*a,g(*a))", -1);
            EDGE.fault(what, "f(?a,*b,?a,*b)", -1);
            EDGE.fault(what, "f(?z,*a,?y)", -1);
            EDGE.fault(what, "f(?z,*z)", 5);
            EDGE.fault(what, "f(*z,?z)", 5);
        }
    }

    private static void twoRowsAndOneDeep() {
        EDGE.of("Terms", "A PATTERN has two ROWS and one DEEP at most, no ROW within DEEP.");
        EDGE.fault(PATTERN, "f(*a,*b)", -1);
        EDGE.fault(PATTERN, "f(*a,*a)", -1);
        EDGE.fault(PATTERN, "f(g(*a),h(*b))", -1);
        EDGE.fault(PATTERN, "f(*a,g(*b))", -1);
        EDGE.fault(PATTERN, "f(*a,*b,*c)", 8);
        EDGE.fault(PATTERN, "f(*a,*a,*a)", 8);
        EDGE.fault(PATTERN, "@(a)", -1);
        EDGE.fault(PATTERN, "f(@(a),@(b))", 7);
        EDGE.fault(PATTERN, "f(*a,@(b),*c)", -1);
        EDGE.fault(PATTERN, "f(@(g(b)),*a,h(*c))", -1);
        EDGE.fault(PATTERN, "f(@(g(*a)))", 6);
        EDGE.fault(TEMPLATE, "f(*a,*b,*c)", -1);
        EDGE.fault(TEMPLATE, "f(" + "*a,*b,*c,*d,".repeat(6) + "g(*a))", -1);
    }

    private static void faultIsTheFirstByteOrTheEnd() {
        EDGE.of("Terms", "FAULT: the first byte (or the end) at which none such can go on;");
        for (int what : ALL) {
            EDGE.fault(what, "A", 0);
            EDGE.fault(what, "AB", 0);
            EDGE.fault(what, "f(A,B", 2);
            EDGE.fault(what, "f(a", 3);
            EDGE.fault(what, "f(a ", 4);
            EDGE.fault(what, "f( ", 3);
            EDGE.fault(what, "f(a, ", 5);
            EDGE.fault(what, "f(a) ,", 5);
            EDGE.fault(what, "f(a) \n", -1);
        }
        EDGE.fault(PATTERN, "?A", 1);
        EDGE.fault(PATTERN, "f(?a,?A,?B)", 6);
        EDGE.fault(TEMPLATE, "f(*a,*", 6);
    }

    private static void thirteenthOpening() {
        EDGE.of("Terms", "the thirteenth ( within one another;");
        for (int what : ALL) {
            EDGE.fault(what, nested(12, "a"), -1);
            EDGE.fault(what, nested(12, ""), -1);
            EDGE.fault(what, nested(13, "a"), 25);
            EDGE.fault(what, nested(13, ""), 25);
            EDGE.fault(what, "a(".repeat(13), 25);
            EDGE.fault(what, "a(".repeat(40), 25);
            EDGE.fault(what, "a(".repeat(12), 24);
            EDGE.fault(what, nested(12, "a (b)"), 26);
        }
        EDGE.fault(TEXT, "f(" + "g(),".repeat(20) + nested(11, "a") + "," + nested(11, "b") + ")", -1);
        EDGE.fault(TEXT, "f(" + nested(11, "a") + "," + nested(12, "b") + ")", 60);
        EDGE.fault(TEXT, "f(" + nested(11, "b()"), 25);
        EDGE.fault(PATTERN, "@(" + nested(11, "?x") + ")", -1);
        EDGE.fault(PATTERN, "@(" + nested(12, "?x") + ")", 25);
        EDGE.fault(PATTERN, nested(11, "@(?x)"), -1);
        EDGE.fault(PATTERN, nested(12, "@(?x)"), 25);
        EDGE.fault(TEMPLATE, nested(12, "*x"), -1);
    }

    private static void thirdRowSecondDeepRowWithinDeep() {
        EDGE.of("Terms", "in a PATTERN the third * of a ROW, the second @, a * within DEEP;");
        EDGE.fault(PATTERN, "f(*a,*b,*", 8);
        EDGE.fault(PATTERN, "f(*a,g(*b),h(i(*c)))", 15);
        EDGE.fault(PATTERN, "f(*a,*b, *a)", 9);
        EDGE.fault(PATTERN, "@(@(a))", 2);
        EDGE.fault(PATTERN, "@(f(@(a)))", 4);
        EDGE.fault(PATTERN, "f(@(a), @", 8);
        EDGE.fault(PATTERN, "f(g(@(a)),h(@(b)))", 12);
        EDGE.fault(PATTERN, "@(*a)", 2);
        EDGE.fault(PATTERN, "@(f(*", 4);
        EDGE.fault(PATTERN, "@(f(g(a,*a)))", 8);
        EDGE.fault(PATTERN, "@(f(g(a),*a))", 9);
        EDGE.fault(PATTERN, "f(*a,@(g(h(),*b)))", 13);
        EDGE.fault(PATTERN, "f(@(a),g(*a,*b))", -1);
        EDGE.fault(PATTERN, "f(g(@(h(a))),*a)", -1);
    }

    private static void letterOfTheOtherKind() {
        EDGE.of("Terms", "the ? or * whose letter is of the other kind there already.");
        for (int what : SHAPES) {
            EDGE.fault(what, "f(?a,*a)", 5);
            EDGE.fault(what, "f(*a,?a)", 5);
            EDGE.fault(what, "f(?a,g(h(*a)))", 9);
            EDGE.fault(what, "f(g(*z), ?z)", 9);
            EDGE.fault(what, "f(?a,*b,?b,*a)", 8);
            EDGE.fault(what, "f(?a,*A)", 6);
            EDGE.fault(what, "f(?a,*", 6);
        }
        EDGE.fault(PATTERN, "f(*a,@(?a))", 7);
        EDGE.fault(PATTERN, "f(@(?a),*a)", 8);
    }
}
