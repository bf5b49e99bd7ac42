/** Each promise with ordinary inputs, the edges that the document names, and wrong inputs. */
public final class PromiseTest {
    private static final Check CHECK = new Check();

    private static void due(String what, Object due, Object got) {
        CHECK.same(what, due, got);
    }

    private static Tool tool(String text, String pattern, String template) {
        return new Tool().with(text, pattern, template);
    }

    private static int letter(char c) {
        return c - 'a';
    }

    public static void main(String[] args) {
        newObject();
        feed();
        end();
        faultOfTexts();
        faultOfPatterns();
        faultOfTemplates();
        take();
        differ();
        nodes();
        alike();
        matches();
        firstWay();
        holes();
        taken();
        put();
        rowsOfNone();
        putRefused();
        putAll();
        back();
        at();
        count();
        CHECK.finish();
    }

    private static void newObject() {
        Tool tool = new Tool();
        due("1: text", "a", tool.text());
        due("1: bytes of the text", 1, tool.it.count(0));
        due("1: bytes of the pattern", 1, tool.it.count(1));
        due("1: bytes of the template", 1, tool.it.count(2));
        due("1: the tape is empty", 0, tool.it.count(3));
        due("1: nothing to go back to", 0, tool.it.count(4));
        due("1: back", false, tool.it.back());
        due("1: the pattern a matches", "0", tool.matches());
        due("1: nothing differs", false, tool.it.differ(0, 1, false));
        due("1: the template is a", 1, tool.it.put(0));
        due("1: text after put", "a", tool.text());
        Tool other = new Tool();
        tool.with("f(x)", "?x", "b");
        due("1: objects share nothing", "a", other.text());
        due("1: nor the pattern", "0", other.matches());
    }

    private static void feed() {
        Tool tool = new Tool();
        due("2: highest byte first", 4, tool.it.feed(0x66286129, 0, 0, 0, 0));
        due("2: taken", true, tool.it.take(0));
        due("2: text", "f(a)", tool.text());
        due("2: zeros are left out", 3, tool.it.feed(0x00660000, 0x28, 0, 0x6100, 0));
        due("2: and 0 more", 3, tool.it.feed(0, 0, 0, 0, 0));
        due("2: the fifth number too", 4, tool.it.feed(0, 0, 0, 0, 0x29));
        due("2: taken", true, tool.it.take(0));
        due("2: text", "f(a)", tool.text());
        due("2: high bytes are bytes", 20, tool.it.feed(-1, -1, -1, -1, -1));
        due("2: and faults", 0, tool.it.fault(0));
        tool.it.end(0);
        due("2: all 240", 240, tool.feed("a".repeat(240)));
        due("2: nothing more is fine", 240, tool.it.feed(0, 0, 0, 0, 0));
        due("2: one more is not", -1, tool.it.feed(0, 0, 0, 0, 0x61));
        due("2: nor twenty", -1, tool.it.feed(0x61616161, 0x61616161, 0x61616161, 0x61616161, 0x61616161));
        due("2: refused changes nothing", 240, tool.it.count(3));
        tool.it.end(230);
        due("2: eleven more are too many", -1, tool.it.feed(0x28282828, 0x28282828, 0x28282800, 0, 0));
        due("2: and none of them counts", 230, tool.it.count(3));
        due("2: ten more are fine", 240, tool.it.feed(0x61616161, 0x61616161, 0x61610000, 0, 0));
        due("2: the tape is whole", true, tool.it.take(0));
        due("2: text", "a".repeat(240), tool.text());
    }

    private static void end() {
        Tool tool = new Tool();
        due("3: of an empty tape", true, tool.it.end(0));
        due("3: past an empty tape", false, tool.it.end(1));
        tool.feed("abc(d");
        due("3: below 0", false, tool.it.end(-1));
        due("3: lowest", false, tool.it.end(Integer.MIN_VALUE));
        due("3: highest", false, tool.it.end(Integer.MAX_VALUE));
        due("3: one too many", false, tool.it.end(6));
        due("3: refused changes nothing", 5, tool.it.count(3));
        due("3: all of it", true, tool.it.end(5));
        due("3: all of it stays", 5, tool.it.count(3));
        due("3: the first three", true, tool.it.end(3));
        due("3: three are left", 3, tool.it.count(3));
        due("3: no way back", false, tool.it.end(4));
        due("3: taken", true, tool.it.take(0));
        due("3: text", "abc", tool.text());
        tool.feed("xy");
        tool.it.end(1);
        tool.feed("z");
        tool.it.take(0);
        due("3: more goes behind the first n", "xz", tool.text());
    }

    private static void fault(int what, String bytes, int due) {
        due("4: fault(" + what + ") of '" + bytes + "'", due, new Tool().fault(what, bytes));
    }

    private static String nested(int opened, String inner) {
        return "a(".repeat(opened) + inner + ")".repeat(opened);
    }

    private static void faultOfTexts() {
        fault(0, "", 0);
        fault(0, "  \n", 3);
        fault(0, "a", -1);
        fault(0, "z9", -1);
        fault(0, "0", -1);
        fault(0, "a()", -1);
        fault(0, " a ( \n ) ", -1);
        fault(0, "\nab0 ( c , d ( ) , 1 )\n", -1);
        fault(0, "a b", 2);
        fault(0, "a(b c)", 4);
        fault(0, "a(", 2);
        fault(0, "a(,b)", 2);
        fault(0, "a(b,)", 4);
        fault(0, "a(b,,c)", 4);
        fault(0, "a(b", 3);
        fault(0, "a(b,", 4);
        fault(0, "a(b))", 4);
        fault(0, "a)", 1);
        fault(0, "a,b", 1);
        fault(0, "a()b", 3);
        fault(0, "a()()", 3);
        fault(0, "a()(", 3);
        fault(0, "(a)", 0);
        fault(0, "A", 0);
        fault(0, "aB", 1);
        fault(0, "a\tb", 1);
        fault(0, "a\r", 1);
        fault(0, "`", 0);
        fault(0, "{", 0);
        fault(0, "/", 0);
        fault(0, ":", 0);
        fault(0, "a(\u00e1)", 2);
        fault(0, "?x", 0);
        fault(0, "f(?x)", 2);
        fault(0, "f(*x)", 2);
        fault(0, "@(a)", 0);
        fault(0, nested(12, "a"), -1);
        fault(0, nested(12, ""), -1);
        fault(0, nested(13, "a"), 25);
        fault(0, "f(" + nested(11, "a") + "," + nested(11, "b") + ")", -1);
        fault(0, "f(" + nested(11, "a") + "," + nested(12, "b") + ")", 36 + 1 + 23);
        fault(0, "a(".repeat(120), 25);
        fault(0, "a" + "(".repeat(3), 2);
        fault(0, "a(" + "a,".repeat(118) + "a)", -1);
        fault(0, "a(" + "a,".repeat(119), 240);
        fault(0, "a".repeat(240), -1);
        fault(-1, "a", -2);
        fault(3, "a", -2);
        fault(Integer.MIN_VALUE, "a", -2);
        fault(Integer.MAX_VALUE, "a", -2);
    }

    private static void faultOfPatterns() {
        fault(1, "", 0);
        fault(1, "a(b,c())", -1);
        fault(1, "?x", -1);
        fault(1, " ?x\n", -1);
        fault(1, "?", 1);
        fault(1, "? x", 1);
        fault(1, "?1", 1);
        fault(1, "?X", 1);
        fault(1, "?xy", 2);
        fault(1, "?x(", 2);
        fault(1, "?x?y", 2);
        fault(1, "f(?x ?y)", 5);
        fault(1, "f(?x,?x,?y)", -1);
        fault(1, "*a", 0);
        fault(1, "f(*a)", -1);
        fault(1, "f( *a , *b )", -1);
        fault(1, "f(* a)", 3);
        fault(1, "f(*", 3);
        fault(1, "f(*)", 3);
        fault(1, "f(*a,*a)", -1);
        fault(1, "f(*a,*a,*a)", 8);
        fault(1, "f(*a,g(*b),h(*c))", 13);
        fault(1, "f(*a,*b,*", 8);
        fault(1, "@(a)", -1);
        fault(1, " @ ( a ) ", -1);
        fault(1, "@", 1);
        fault(1, "@a", 1);
        fault(1, "@()", 2);
        fault(1, "@(a,b)", 3);
        fault(1, "@(a b)", 4);
        fault(1, "@(a)(", 4);
        fault(1, "@(?x)", -1);
        fault(1, "@(*a)", 2);
        fault(1, "@(f(*a))", 4);
        fault(1, "f(@(g(?x,h())),*a,*b)", -1);
        fault(1, "f(*a,@(g(*b)))", 9);
        fault(1, "@(@(a))", 2);
        fault(1, "f(@(a),@(b))", 7);
        fault(1, "f(@(a),g(*b))", -1);
        fault(1, "f(?a,*a)", 5);
        fault(1, "f(*a,?a)", 5);
        fault(1, "f(?a,*", 6);
        fault(1, "f(?a,*1)", 6);
        fault(1, "f(?a,*b)", -1);
        fault(1, nested(11, "@(a)"), -1);
        fault(1, nested(12, "@(a)"), 25);
        fault(1, "@(" + nested(11, "?x") + ")", -1);
        fault(1, "@(" + nested(12, "?x") + ")", 25);
        fault(1, "a".repeat(80), -1);
        fault(1, "a".repeat(81), -2);
        fault(1, "(".repeat(81), -2);
        fault(1, "(".repeat(80), 0);
    }

    private static void faultOfTemplates() {
        fault(2, "f(*a,*b,*c,*d,*a)", -1);
        fault(2, "?x", -1);
        fault(2, "*x", 0);
        fault(2, "@(a)", 0);
        fault(2, "f(@(a))", 2);
        fault(2, "f(?a,*a)", 5);
        fault(2, "f(*a,g(?a))", 7);
        fault(2, "f(? a)", 3);
        fault(2, "f(*", 3);
        fault(2, nested(12, "*a"), -1);
        fault(2, nested(13, "*a"), 25);
        fault(2, "a".repeat(80), -1);
        fault(2, "a".repeat(81), -2);
        fault(2, "f(?q)", -1);
        Tool tool = new Tool();
        tool.feed("f(?x)");
        tool.it.fault(1);
        due("4: fault changes nothing", 5, tool.it.count(3));
        due("4: nor the text", "a", tool.text());
        tool.it.end(3);
        due("4: what was behind the end is forgotten", 3, tool.it.fault(1));
        tool.it.end(2);
        due("4: and an atom too", 2, tool.it.fault(0));
    }

    private static void take() {
        Tool tool = new Tool();
        due("5: an empty tape", false, tool.it.take(0));
        tool.feed("f(b");
        due("5: a fault", false, tool.it.take(0));
        due("5: refused changes nothing", 3, tool.it.count(3));
        due("5: nor the text", "a", tool.text());
        tool.feed(")");
        due("5: no such thing", false, tool.it.take(3));
        due("5: nor below", false, tool.it.take(-1));
        due("5: a text", true, tool.it.take(0));
        due("5: the tape is empty then", 0, tool.it.count(3));
        due("5: text", "f(b)", tool.text());
        due("5: a pattern is no text", false, tool.take(0, "f(?x)"));
        due("5: a pattern", true, tool.it.take(1));
        due("5: it matches", "0", tool.matches());
        due("5: deep is no template", false, tool.take(2, "@(a)"));
        due("5: a template", true, tool.take(2, "g( ?x )"));
        due("5: it is put", 1, tool.it.put(0));
        due("5: text", "g( b )", tool.text());
        due("5: too long a pattern", false, tool.take(1, "a".repeat(81)));
        due("5: too long a template", false, tool.it.take(2));
        due("5: refused changes nothing", 81, tool.it.count(3));
        due("5: a pattern and a template leave what to go back to", 1, tool.it.count(4));
        tool.take(1, "?x");
        tool.take(2, "?x");
        due("5: still there", 1, tool.it.count(4));
        tool.take(0, "b(");
        due("5: a refused text too", 1, tool.it.count(4));
        tool.take(0, "b");
        due("5: a text takes it away", 0, tool.it.count(4));
        due("5: nothing to go back to", false, tool.it.back());
        tool.with("p(b,b)", "p(?a,?b)", "a");
        tool.it.differ(0, 1, true);
        tool.take(0, "p(c,c)");
        tool.take(2, "b");
        due("5: a text and a template leave what differs", 0, tool.it.matches());
        tool.take(1, "p(?a,*a)");
        due("5: a refused pattern too", 0, tool.it.matches());
        tool.take(1, "p(?b,?a)");
        due("5: a pattern takes it away", 1, tool.it.matches());
        due("5: so that it is not so", true, tool.it.differ(1, 0, true));
    }

    private static void differ() {
        Tool tool = tool("p(q,q,r)", "p(?a,?b,?c)", "a");
        due("6: below a", false, tool.it.differ(-1, 0, true));
        due("6: behind z", false, tool.it.differ(0, 26, true));
        due("6: far off", false, tool.it.differ(32, 0, true));
        due("6: far below", false, tool.it.differ(0, Integer.MIN_VALUE, true));
        due("6: alike", false, tool.it.differ(3, 3, true));
        due("6: not so already", false, tool.it.differ(0, 1, false));
        due("6: refused changes nothing", 1, tool.it.matches());
        due("6: a and c", true, tool.it.differ(0, 2, true));
        due("6: they do", 1, tool.it.matches());
        due("6: a and b", true, tool.it.differ(1, 0, true));
        due("6: they do not", 0, tool.it.matches());
        due("6: it is so", false, tool.it.differ(0, 1, true));
        due("6: no more", true, tool.it.differ(0, 1, false));
        due("6: then it matches", 1, tool.it.matches());
        due("6: a and c still must", false, tool.it.differ(2, 0, true));
        due("6: letters that the pattern has not", true, tool.it.differ(24, 25, true));
        due("6: change nothing", 1, tool.it.matches());
        Tool rows = tool("p(q,q)", "p(*a,?b)", "a");
        rows.it.differ(0, 1, true);
        due("6: of rows nothing is asked", 1, rows.it.matches());
        Tool deep = tool("p(g(x,x),x)", "p(g(?a,x),?b)", "a");
        deep.it.differ(1, 0, true);
        due("6: wherever they stand", 0, deep.it.matches());
        Tool shaped = tool("p(q(),q)", "p(?a,?b)", "a");
        shaped.it.differ(0, 1, true);
        due("6: q() and q are not alike", 1, shaped.it.matches());
        Tool blanks = tool("p(q( r ),q(r))", "p(?a,?b)", "a");
        blanks.it.differ(0, 1, true);
        due("6: blanks do not make them differ", 0, blanks.it.matches());
    }

    private static void nodes() {
        Tool tool = new Tool();
        tool.take(0, " f ( a1 ,\ng( b ( ) , 2)) ");
        due("7: nodes", 5, tool.it.nodes());
        int[][] due = {{1, 24, 2, -1}, {5, 7, 0, 0}, {10, 23, 2, 0}, {13, 18, 0, 2}, {21, 22, 0, 2}};
        for (int node = 0; node < due.length; node++) {
            for (int what = 0; what < 4; what++) {
                due("8: node(" + node + ", " + what + ")", due[node][what], tool.it.node(node, what));
            }
        }
        due("8: no such node", -1, tool.it.node(5, 0));
        due("8: nor below", -1, tool.it.node(-1, 0));
        due("8: far off", -1, tool.it.node(Integer.MAX_VALUE, 0));
        due("8: no such thing", -1, tool.it.node(1, 4));
        due("8: nor below", -1, tool.it.node(1, -1));
        tool.take(0, "a(" + "a,".repeat(118) + "a)");
        due("7: as many as can be", 120, tool.it.nodes());
        due("8: the last one", 238, tool.it.node(119, 0));
        due("8: terms", 119, tool.it.node(0, 2));
        tool.take(0, "a");
        due("8: an old node is gone", -1, tool.it.node(1, 0));
    }

    private static void alike() {
        Tool tool = new Tool();
        tool.take(0, "f(a,a(),a( ),g(a,b),g( a ,\nb),g(b,a),g(a,b,c),ab,g(a(),b))");
        due("9: itself", true, tool.it.alike(0, 0));
        due("9: a and a()", false, tool.it.alike(1, 2));
        due("9: a() and a( )", true, tool.it.alike(2, 3));
        due("9: g(a,b) with blanks", true, tool.it.alike(4, 7));
        due("9: both ways", true, tool.it.alike(7, 4));
        due("9: g(b,a)", false, tool.it.alike(4, 10));
        due("9: one term more", false, tool.it.alike(4, 13));
        due("9: a and ab", false, tool.it.alike(1, 17));
        due("9: terms that are not", false, tool.it.alike(4, 18));
        due("9: a in several places", true, tool.it.alike(1, 5));
        due("9: nodes", 21, tool.it.nodes());
        due("9: no such node", false, tool.it.alike(21, 21));
        due("9: nor below", false, tool.it.alike(-1, -1));
        due("9: nor one of two", false, tool.it.alike(0, 21));
        tool.take(0, "f(g(h(x),y),g(h(x,y)),g(h(x),y))");
        due("9: the same atoms in another shape", false, tool.it.alike(1, 5));
        due("9: in the same one", true, tool.it.alike(1, 9));
    }

    private static void matched(String text, String pattern, String due) {
        due("10, 11: '" + pattern + "' in '" + text + "'", due, tool(text, pattern, "a").matches());
    }

    private static void matches() {
        matched("f(a,g(a),a())", "a", "1 3");
        matched("f(a,g(a),a())", "a()", "4");
        matched("f(a,g(a),a())", " a ( ) ", "4");
        matched("f(a,g(a),a())", "g(a)", "2");
        matched("f(a,g(a),a())", "?x", "0 1 2 3 4");
        matched("f(a,g(a),a())", "g(?x)", "2");
        matched("f(a,g(a),a())", "g", "");
        matched("f(a,g(a),a())", "f(?x,?y)", "");
        matched("f(a,g(a),a())", "f(?x,?y,?z)", "0");
        matched("f(a,g(a),a())", "f(?x,g(?x),?y)", "0");
        matched("f(a,g(a),a())", "f(?x,?y,?x)", "");
        matched("f(ab,a)", "a", "2");
        matched("f(ab,a)", "ab", "1");
        matched("f(ab,a)", "abc", "");
        matched("f(g(1, 2),g(1,2),g(2,1))", "f(?x,?x,?y)", "0");
        matched("f(g(1, 2),g(1,2),g(2,1))", "f(?x,?y,?x)", "");
        matched("f(f(),f(a),f(a,b))", "f(*r)", "0 1 2 4");
        matched("f(f(),f(a),f(a,b),f)", "f(*r)", "0 1 2 4");
        matched("f(f(),f(a),f(a,b))", "f(*r,?x)", "0 2 4");
        matched("f(f(),f(a),f(a,b))", "f(?x,*r)", "0 2 4");
        matched("f(f(),f(a),f(a,b))", "f(?x,*r,?y)", "0 4");
        matched("f(f(),f(a),f(a,b))", "f(*r,*s)", "0 1 2 4");
        matched("f(f(),f(a),f(a,a),f(a,b))", "f(*r,*r)", "1 4");
        matched("f(a,b,a,b)", "f(*r,*r)", "0");
        matched("f(a,b,b,a)", "f(*r,*r)", "");
        matched("f(a,b,c)", "f(*r,b,*s)", "0");
        matched("f(a,b,c)", "f(*r,d,*s)", "");
        matched("f(g(1,2),h(1,2))", "f(g(*r),h(*r))", "0");
        matched("f(g(1,2),h(1,2,3))", "f(g(*r),h(*r))", "");
        matched("f(g(1,2),h(1,2,3))", "f(g(*r),h(*r,?x))", "0");
        matched("f(g(h(x)),h(x),y)", "@(h(x))", "0 1 2 4");
        matched("f(g(h(x)),h(x),y)", "g(@(x))", "1");
        matched("f(g(h(x)),h(x),y)", "f(*r,@(h(?x)),?y)", "0");
        matched("f(g(h(x)),h(x),y)", "f(@(?z),?z,?y)", "0");
        matched("f(g(h(x)),h(y),y)", "f(@(?z),?z,?y)", "");
        Tool tool = tool("f(a,g(a),a())", "a", "a");
        due("11: below", -1, tool.it.match(-1));
        due("11: the second", 3, tool.it.match(1));
        due("11: behind", -1, tool.it.match(2));
        due("11: far off", -1, tool.it.match(Integer.MAX_VALUE));
        tool.take(0, "f(" + "a,".repeat(118) + "a)");
        due("10: many", 119, tool.it.matches());
    }

    /** What the letters a, b, .. are as the first node is matched: node and how many. */
    private static void way(String text, String pattern, String due) {
        due("12, 13: '" + pattern + "' in '" + text + "'", due, tool(text, pattern, "a").letters(0));
    }

    private static void firstWay() {
        way("f(1,2,3)", "f(*a,?x,*b)", "a-1x0 b2x2 x1x1");
        way("f(1,2,3)", "f(*a,*b)", "a-1x0 b1x3");
        way("f(1,g(2),3,g(4))", "f(*a,g(?x),*b)", "a1x1 b4x2 x3x1");
        way("f(1,2,1,2,3)", "f(*a,*a,?x)", "a1x2 x5x1");
        way("f(1,2,2)", "f(*a,?x,?x,*b)", "a1x1 b-1x0 x2x1");
        way("f(1,g(h(2),h(3)))", "f(?a,@(h(?x)))", "a1x1 x4x1");
        way("f(3,g(h(2),h(3)))", "f(?x,@(h(?x)))", "x1x1");
        way("f(g(h(2),h(3)),3)", "f(@(h(?x)),?x)", "x5x1");
        way("f(g(h(h(1))))", "@(h(?x))", "x3x1");
        way("f(g(1),1)", "@(?x)", "x0x1");
        // What is further left in the pattern is chosen first, even if the other one must then take more.
        way("f(g(1,2),2,1,9)", "f(@(?x),*a,?x,*b)", "a4x1 b6x1 x2x1");
        way("f(1,g(1,2),2)", "f(*a,@(?x),*b)", "a-1x0 b2x2 x1x1");
        way("f(h(1,2,3),g(3,2))", "f(h(*a,?x,*b),@(?x))", "a2x1 b4x1 x3x1");
        way("f(g(3,2),h(1,2,3))", "f(@(?x),h(*a,?x,*b))", "a5x2 b-1x0 x2x1");
        way("f(g(a,b),g(b,a))", "f(g(?x,*r),g(*s,?x))", "r3x1 s5x1 x2x1");
        way("f(g(1,2,3))", "f(g(*a,*b))", "a-1x0 b2x3");
        way("f(k(1,2),1,2,3)", "f(k(*a),*a,?x)", "a2x2 x6x1");
        way("f(k(1,2),1,2)", "f(k(*a),*a)", "a2x2");
        way("f(a(b),c)", "f(?x,?y)", "x1x1 y3x1");
    }

    private static void holes() {
        Tool tool = tool("f(g(1,2),g(),h(3))", "g(*r)", "a");
        int r = letter('r');
        due("12: the first of a row", 2, tool.it.hole(1, r));
        due("13: how many", 2, tool.it.row(1, r));
        due("12: a row of none", -1, tool.it.hole(4, r));
        due("13: a row of none", 0, tool.it.row(4, r));
        due("12: not matched", -1, tool.it.hole(5, r));
        due("13: not matched", -1, tool.it.row(5, r));
        due("12: no letter of the pattern", -1, tool.it.hole(1, letter('s')));
        due("13: no letter of the pattern", -1, tool.it.row(1, letter('s')));
        int[] wrong = {-1, 26, 32, Integer.MIN_VALUE, Integer.MAX_VALUE};
        for (int letter : wrong) {
            due("12: no letter " + letter, -1, tool.it.hole(1, letter));
            due("13: no letter " + letter, -1, tool.it.row(1, letter));
        }
        for (int node : new int[] {-1, 7, Integer.MAX_VALUE}) {
            due("12: no node " + node, -1, tool.it.hole(node, r));
            due("13: no node " + node, -1, tool.it.row(node, r));
        }
        tool.take(1, "?z");
        due("12: a hole", 5, tool.it.hole(5, 25));
        due("13: a hole", 1, tool.it.row(5, 25));
        due("12: an old letter", -1, tool.it.hole(1, r));
    }

    private static void taken(String text, String pattern, String outer, String inner, String greatest) {
        Tool tool = tool(text, pattern, "a");
        due("14, 15: rule 0 of '" + pattern + "' in '" + text + "'", outer, tool.takes(0));
        due("14, 15: rule 1 of '" + pattern + "' in '" + text + "'", inner, tool.takes(1));
        due("14, 15: rule 2 of '" + pattern + "' in '" + text + "'", greatest, tool.takes(2));
    }

    private static void taken() {
        taken("f(a,b)", "c", "", "", "");
        taken("f(a,b)", "b", "2", "2", "2");
        taken("f(a,b)", "?x", "0", "1 2", "1 2");
        taken("s(s(s(z)))", "s(?x)", "0", "2", "0");
        taken("f(s(a,s(b)),s(c,s(d),s(e)))", "s(*r)", "1 5", "3 7 9", "1 7 9");
        taken("s(s(s(1),s(2)))", "s(?x)", "0", "2 4", "2 4");
        taken("s(f(s(s(1)),s(2)))", "s(?x)", "0", "3 5", "2 5");
        taken("s(f(g(s(s(1))),g(s(2))))", "s(?x)", "0", "4 7", "3 7");
        taken("s(s(s(1),s(2)),s(s(3)))", "s(*r)", "0", "2 4 7", "2 4 6");
        Tool tool = tool("f(a,b)", "?x", "a");
        for (int rule : new int[] {-1, 3, Integer.MIN_VALUE, Integer.MAX_VALUE}) {
            due("14: no rule " + rule, -1, tool.it.taken(rule));
            due("15: no rule " + rule, -1, tool.it.takes(rule, 0));
        }
        due("15: below", -1, tool.it.takes(1, -1));
        due("15: behind", -1, tool.it.takes(1, 2));
        due("15: far off", -1, tool.it.takes(1, Integer.MAX_VALUE));
        due("14: none", 0, tool("f(a,b)", "c", "a").it.taken(0));
        due("15: of none", -1, tool("f(a,b)", "c", "a").it.takes(0, 0));
    }

    private static void becomes(String text, String pattern, String template, int rule, String due) {
        Tool tool = tool(text, pattern, template);
        int taken = tool.it.taken(rule);
        due("16: put of '" + template + "'", taken, tool.it.put(rule));
        due("16: '" + text + "' by '" + pattern + "' and '" + template + "'", due, tool.text());
        due("16: its nodes", new Tool().with(due, "a", "a").it.nodes(), tool.it.nodes());
        due("16: back", true, tool.it.back());
        due("16: the text is back", text, tool.text());
    }

    private static void put() {
        becomes("f(a, g(1,2))", "g(?x,?y)", "h(?y, ?x, ?x)", 0, "f(a, h(2, 1, 1))");
        becomes(" f ( g( 1 , 2 ) , b ) ", "g(?x,?y)", " k ( ?y ) ", 0, " f ( k ( 2 ) , b ) ");
        becomes(" g ( 1 ) ", "g(?x)", "\n?x\n", 0, " 1 ");
        becomes("g(h( 1 ,\n2 ))", "g(?x)", "k(?x)", 0, "k(h( 1 ,\n2 ))");
        becomes("f( 1 ,  2,3 )", "f(*a)", "k(0,*a)", 0, "k(0,1 ,  2,3)");
        becomes("f(1, 2,3)", "f(?x,*a)", "k( *a ,?x, *a)", 0, "k( 2,3 ,1, 2,3)");
        becomes("f(g(1 , 2),h(3))", "f(*a)", "k(*a)", 0, "k(g(1 , 2),h(3))");
        becomes("f(g(1),g(2))", "g(?x)", "?x", 0, "f(1,2)");
        becomes("s(s(s(z)))", "s(?x)", "t(?x,y)", 0, "t(s(s(z)),y)");
        becomes("s(s(s(z)))", "s(?x)", "t(?x,y)", 1, "s(s(t(z,y)))");
        becomes("s(s(s(z)),s(y))", "s(?x)", "t", 2, "s(t,t)");
        becomes("f(a,b)", "c", "d", 0, "f(a,b)");
        becomes("f(g( x ),y,x)", "f(@(?a),*r,?a)", "k(?a,*r)", 0, "k(x,y)");
        becomes("f(x( ),x())", "f(?a,?a)", "?a", 0, "x( )");
        becomes("f(a)", "f(?x)", "g", 0, "g");
        becomes("f(a)", "f(?x)", "g()", 0, "g()");
        becomes("f(a)", "f(?x)", "g( h( ) )", 0, "g( h( ) )");
        Tool tool = tool("f(a,b)", "c", "d");
        due("16: none taken", 0, tool.it.put(0));
        due("16: kept all the same", 1, tool.it.count(4));
        tool.with("f(a,b)", "?x", "d");
        due("16: how many", 2, tool.it.put(1));
        due("16: text", "f(d,d)", tool.text());
    }

    private static void rowsOfNone() {
        becomes("f()", "f(*a)", "k(*a)", 0, "k()");
        becomes("f()", "f(*a)", "k( *a\n)", 0, "k( \n)");
        becomes("f()", "f(*a)", "k( *a , b )", 0, "k( b )");
        becomes("f()", "f(*a)", "k( b , *a )", 0, "k( b )");
        becomes("f()", "f(*a)", "k( b\n, *a , c )", 0, "k( b\n, c )");
        becomes("f()", "f(*a,*b)", "k( *a , *b )", 0, "k(  )");
        becomes("f()", "f(*a,*b)", "k( *a ,\n*b\n, c )", 0, "k( c )");
        becomes("f()", "f(*a,*b)", "k( c , *a\n,*b )", 0, "k( c )");
        becomes("f()", "f(*a,*b)", "k( *a, c\n, *b )", 0, "k( c )");
        becomes("f()", "f(*a,*b)", "k( c\n, *a ,d , *b )", 0, "k( c\n, d )");
        becomes("f()", "f(*a)", "k( *a ,*a, *a )", 0, "k(  )");
        becomes("f()", "f(*a)", "k(g(x ),\n*a )", 0, "k(g(x ) )");
        becomes("f()", "f(*a)", "k(g(x , *a ) , *a)", 0, "k(g(x ))");
        becomes("f()", "f(*a)", "k(*a , g( *a ) )", 0, "k(g(  ) )");
        becomes("f(1)", "f(*a,*b)", "k(*a , *b)", 0, "k(1)");
        becomes("f(1)", "f(*a,*b)", "k(*b , *a)", 0, "k(1)");
        becomes("f(1)", "f(*a,*b)", "k(*b\n, *a , *b)", 0, "k(1\n, 1)");
        becomes("f(1)", "f(?x,*b)", "k(g(?x , *b) , *b)", 0, "k(g(1))");
        becomes("f(g(),g(1,2),g(3))", "g(*a)", "k(*a , z)", 0, "f(k(z),k(1,2 , z),k(3 , z))");
    }

    private static void refused(Tool tool, int rule) {
        String before = tool.text();
        int kept = tool.it.count(4);
        due("16: put is refused", -2, tool.it.put(rule));
        due("17: putAll is refused at once", -2, tool.it.putAll(rule));
        due("16: nothing changes", before, tool.text());
        due("16: nothing is kept", kept, tool.it.count(4));
    }

    private static void putRefused() {
        Tool tool = tool("f(a)", "f(?x)", "g(?x)");
        for (int rule : new int[] {-1, 3, Integer.MIN_VALUE, Integer.MAX_VALUE}) {
            refused(tool, rule);
        }
        refused(tool("f(a)", "f(?x)", "g(?y)"), 0);
        refused(tool("f(a)", "f(?x)", "g(*x)"), 0);
        refused(tool("f(a)", "f(*x)", "g(?x)"), 0);
        refused(tool("f(a)", "f(*x)", "?x"), 0);
        refused(tool("f(a)", "c", "g(?x)"), 0);
        String long230 = "f(" + "a".repeat(227) + ")";
        becomes(long230, "f(?x)", "g(?x,bcdefghij)", 0, "g(" + "a".repeat(227) + ",bcdefghij)");
        refused(tool(long230, "f(?x)", "g(?x,bcdefghijk)"), 0);
        refused(tool("f(" + "a".repeat(120) + ")", "f(?x)", "f(?x,?x)"), 0);
        refused(tool("f(a,a,a)" + " ".repeat(232), "a", "bc"), 0);
        refused(tool(" ".repeat(239) + "a", "a", "bc"), 0);
        becomes("b" + "(b".repeat(11) + ")".repeat(11), "b", "b()", 1, "b" + "(b".repeat(11) + "()" + ")".repeat(11));
        refused(tool("b" + "(b".repeat(12) + ")".repeat(12), "b", "b()"), 1);
        refused(tool(nested(12, "x"), "a(?x)", "a(a(?x))"), 0);
        becomes(nested(12, "x"), "a(?x)", "b(?x)", 0, "b(" + nested(11, "x") + ")");
        becomes("f(a(a(a(a(a(a(x)))))),b(b(b(b(b(b(y)))))))", "f(?x,?y)", "f(f(f(f(f(f(?x,?y))))))", 0,
                "f(f(f(f(f(f(a(a(a(a(a(a(x)))))),b(b(b(b(b(b(y))))))))))))");
    }

    private static void putAll() {
        Tool tool = tool("s(s(s(z)))", "s(?x)", "t(?x,?x)");
        due("17: from within", 3, tool.it.putAll(1));
        due("17: text", "t(t(t(z,z),t(z,z)),t(t(z,z),t(z,z)))", tool.text());
        due("17: one to go back to", 1, tool.it.count(4));
        due("17: back", true, tool.it.back());
        due("17: text", "s(s(s(z)))", tool.text());
        due("17: from without", 3, tool.it.putAll(0));
        due("17: text", "t(t(t(z,z),t(z,z)),t(t(z,z),t(z,z)))", tool.text());
        due("17: nothing left", 0, tool.it.putAll(2));
        due("17: kept all the same", 2, tool.it.count(4));
        due("17: it can go back", true, tool.it.back());
        Tool twenty = tool("f(" + "a,".repeat(20) + "z)", "f(a,*r)", "f(*r)");
        due("17: twenty times", 20, twenty.it.putAll(0));
        due("17: text", "f(z)", twenty.text());
        Tool more = tool("f(" + "a,".repeat(21) + "z)", "f(a,*r)", "f(*r)");
        due("17: not done after twenty", -1, more.it.putAll(0));
        due("17: text as before", "f(" + "a,".repeat(21) + "z)", more.text());
        due("17: nodes as before", 23, more.it.nodes());
        due("17: nothing kept", 0, more.it.count(4));
        due("17: no end", -1, new Tool().it.putAll(0));
        Tool longer = tool("f(ab)", "f(?x)", "f(g(?x,?x))");
        due("17: refused on the way", -1, longer.it.putAll(0));
        due("17: text as before", "f(ab)", longer.text());
        due("17: matches as before", "0", longer.matches());
        failingWithAllKept();
    }

    private static void failingWithAllKept() {
        Tool full = tool("c(a)", "c(*r)", "c(*r,a)");
        for (int k = 0; k < 12; k++) {
            full.it.put(0);
        }
        due("17: a failing one", -1, full.it.putAll(0));
        due("17: text as before", "c(a" + ",a".repeat(12) + ")", full.text());
        due("17: takes nothing away", 10, full.it.count(4));
        for (int k = 11; k >= 2; k--) {
            due("17: all ten are there", true, full.it.back());
            due("17: text", "c(a" + ",a".repeat(k) + ")", full.text());
        }
        due("17: no more", false, full.it.back());
    }

    private static void back() {
        Tool tool = tool("c(a)", "c(?x)", "c(d(?x))");
        due("18: nothing yet", false, tool.it.back());
        for (int k = 1; k <= 9; k++) {
            due("18: put " + k, 1, tool.it.put(0));
            due("18: kept", k, tool.it.count(4));
        }
        due("18: a refused put", -2, tool.it.put(5));
        due("18: is not kept", 9, tool.it.count(4));
        for (int k = 8; k >= 0; k--) {
            due("18: back to " + k, true, tool.it.back());
            due("18: text", "c(" + "d(".repeat(k) + "a" + ")".repeat(k) + ")", tool.text());
            due("18: left", k, tool.it.count(4));
        }
        due("18: no more", false, tool.it.back());
        due("18: text stays", "c(a)", tool.text());
        Tool many = tool("c(a)", "c(*r)", "c(*r,a)");
        for (int k = 0; k < 15; k++) {
            many.it.put(0);
        }
        due("18: the latest ten", 10, many.it.count(4));
        for (int k = 14; k >= 5; k--) {
            many.it.back();
            due("18: text", "c(a" + ",a".repeat(k) + ")", many.text());
        }
        due("18: the others are gone", false, many.it.back());
        many.it.put(0);
        many.take(1, "a");
        many.take(2, "b");
        many.it.put(0);
        many.it.put(0);
        due("18: one of none", true, many.it.back());
        due("18: text", "c(b" + ",b".repeat(6) + ")", many.text());
        due("18: then the one before", true, many.it.back());
        due("18: text", "c(a" + ",a".repeat(6) + ")", many.text());
        due("18: matches are of that text", 7, many.it.matches());
    }

    private static void at() {
        Tool tool = new Tool();
        tool.take(0, "\nf( z9 )");
        int[] bytes = {10, 102, 40, 32, 122, 57, 32, 41};
        for (int i = 0; i < bytes.length; i++) {
            due("19: at(" + i + ")", String.valueOf(bytes[i]), tool.at(i));
        }
        for (int i : new int[] {-1, 8, 240, Integer.MIN_VALUE, Integer.MAX_VALUE}) {
            due("19: at(" + i + ")", "throws", tool.at(i));
        }
    }

    private static void count() {
        Tool tool = tool(" a ", "?x  ", "b    ");
        tool.feed("abcdef");
        int[] due = {3, 4, 5, 6, 0};
        for (int what = 0; what < 5; what++) {
            due("20: count(" + what + ")", due[what], tool.it.count(what));
        }
        for (int what : new int[] {-1, 5, Integer.MIN_VALUE, Integer.MAX_VALUE}) {
            due("20: count(" + what + ")", -1, tool.it.count(what));
        }
        tool.it.put(0);
        due("20: after put", 1, tool.it.count(4));
        due("20: bytes", 3, tool.it.count(0));
    }
}
