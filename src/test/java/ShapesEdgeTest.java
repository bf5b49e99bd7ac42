/** One test for each sentence of part 2 of the document's Terms, and of what stands beside it, that names a boundary case. */
public final class ShapesEdgeTest {
    private static final Edge EDGE = new Edge();

    public static void main(String[] args) {
        termMatches();
        rowTakesNoneOrMore();
        holeIsAnyNode();
        letterStandsAgain();
        deepIsItselfOrWithin();
        lettersThatDiffer();
        firstWayCounts();
        takenByRule0();
        takenByRule1();
        takenByRule2();
        takenRatherThanAsManyWithin();
        spanBecomesTheTemplate();
        holeBecomesItsSpan();
        rowBecomesItsBytes();
        rowOfNoneWithOneBehind();
        rowOfNoneThatIsLast();
        rowOfNoneThatIsAlone();
        severalRowsOfNone();
        allOtherBytesStay();
        none();
        the512thCall();
        EDGE.finish();
    }

    private static void termMatches() {
        EDGE.of("Terms 2", "a TERM a NODE with that ATOM, without or with ( ) likewise, whose TERMS in order are matched by the PATTERN's:");
        EDGE.matches("f(a,a(),a(a))", "a", "1 4");
        EDGE.matches("f(a,a(),a(a))", "a()", "2");
        EDGE.matches("f(a,a(),a(a))", "a(a)", "3");
        EDGE.matches("f(a,a(),a(a))", "a(a())", "");
        EDGE.matches("f(a,a(),a(a))", "a(a,a)", "");
        EDGE.matches("f(a,a(),a(a))", "f(a,a(),a(a))", "0");
        EDGE.matches("f(a,a(),a(a))", "f(a(),a,a(a))", "");
        EDGE.matches("f(a,a(),a(a))", "f(a,a())", "");
        EDGE.matches("f(a,a(),a(a))", "f(a,a(),a(a),a)", "");
        EDGE.matches("f(a,b)", "f(a,c)", "");
        EDGE.matches("f(a,b)", "f", "");
        EDGE.matches("f(aa,a0,0a)", "a", "");
        EDGE.matches(" f ( a\n) ", "\nf(a )", "0");
        EDGE.matches("f(g(),g)", "f(g,g())", "");
    }

    private static void rowTakesNoneOrMore() {
        EDGE.of("Terms 2", "a ROW takes 0, 1, 2, .. of them in a row, all others one;");
        EDGE.letters("f()", "f(*a)", "a-1x0");
        EDGE.letters("f(1)", "f(*a)", "a1x1");
        EDGE.letters("f(1,2)", "f(*a)", "a1x2");
        EDGE.letters("f(" + "1,".repeat(118) + "2)", "f(*a)", "a1x119");
        EDGE.letters("f(" + "1,".repeat(118) + "2)", "f(*a,2)", "a1x118");
        EDGE.letters("f(g(1,2),h(3),4)", "f(?x,*a)", "a4x2 x1x1");
        EDGE.letters("f(g(1,2),h(3),4)", "f(*a,?x)", "a1x2 x6x1");
        EDGE.letters("f(1,2)", "f(?x,*a,?y)", "a-1x0 x1x1 y2x1");
        EDGE.letters("f()", "f(*a,*b)", "a-1x0 b-1x0");
        EDGE.matches("f(1)", "f(?x,*a,?y)", "");
        EDGE.matches("f()", "f(?x,*a)", "");
        EDGE.matches("f()", "f(*a,?x,*b)", "");
        EDGE.matches("f(1,2,3)", "f(1,*a,2)", "");
        EDGE.matches("f(1,2,3)", "f(*a,2,*b,3)", "0");
        EDGE.matches("f(1,2,3)", "f(*a,3,*b,3)", "");
        EDGE.matches("f", "f(*a)", "");
    }

    private static void holeIsAnyNode() {
        EDGE.of("Terms 2", "a HOLE any NODE;");
        EDGE.matches("f(a,b(),c(d))", "?x", "0 1 2 3 4");
        EDGE.letters("f(a,b(),c(d))", "f(?x,?y,?z)", "x1x1 y2x1 z3x1");
        EDGE.matches("f()", "f(?x)", "");
        EDGE.matches("f(a,b)", "f(?x)", "");
        EDGE.matches("a", "?x", "0");
    }

    private static void letterStandsAgain() {
        EDGE.of("Terms 2", "a letter that stands again what is ALIKE (of ROWS as many, ALIKE one by one);");
        EDGE.matches("f(g( 1 ),g(1))", "f(?x,?x)", "0");
        EDGE.matches("f(g(1),g(2))", "f(?x,?x)", "");
        EDGE.matches("f(g(),g)", "f(?x,?x)", "");
        EDGE.matches("f(1,1,2)", "f(?x,?x,?x)", "");
        EDGE.matches("f(1,1,1)", "f(?x,?x,?x)", "0");
        EDGE.letters("f(g( 1 ),g(1))", "f(?x,?x)", "x1x1");
        EDGE.matches("f(h(),i())", "f(h(*a),i(*a))", "0");
        EDGE.matches("f(h(1,2),i(1, 2))", "f(h(*a),i(*a))", "0");
        EDGE.matches("f(h(1,2),i(1))", "f(h(*a),i(*a))", "");
        EDGE.matches("f(h(1),i(1,2))", "f(h(*a),i(*a))", "");
        EDGE.matches("f(h(),i(1))", "f(h(*a),i(*a))", "");
        EDGE.matches("f(h(1,2),i(1,3))", "f(h(*a),i(*a))", "");
        EDGE.matches("f(h(1,2),i(2,1))", "f(h(*a),i(*a))", "");
        EDGE.letters("f(1,g(2),1,g( 2 ))", "f(*a,*a)", "a1x2");
        EDGE.matches("f(1,2,1)", "f(*a,*a)", "");
        EDGE.letters("f()", "f(*a,*a)", "a-1x0");
    }

    private static void deepIsItselfOrWithin() {
        EDGE.of("Terms 2", "DEEP any NODE, if that itself, or one within it, is matched by its PIECE.");
        EDGE.matches("f(g(a),b)", "@(a)", "0 1 2");
        EDGE.matches("f(g(a),b)", "@(f(?x,?y))", "0");
        EDGE.matches("f(g(a),b)", "@(b)", "0 3");
        EDGE.matches("f(g(a),b)", "@(c)", "");
        EDGE.matches("f(g(a),b)", "f(@(a),b)", "0");
        EDGE.matches("f(g(a),b)", "f(@(b),b)", "");
        EDGE.matches("f(g(a),b)", "f(g(a),@(b))", "0");
        EDGE.matches("f(g(a),b)", "f(@(f(?x,?y)),b)", "");
        EDGE.matches("f(a)", "f(@(?x))", "0");
        EDGE.matches("f()", "f(@(?x))", "");
        EDGE.matches("b(b(b(b(b(b(b(b(b(b(b(b(a))))))))))))", "@(a)", "0 1 2 3 4 5 6 7 8 9 10 11 12");
    }

    private static void lettersThatDiffer() {
        EDGE.of("Terms 2", "Two letters of HOLES told to DIFFER are not ALIKE.");
        Tool tool = new Tool().with("f(f(1,1),f(1,2),f(1,1()),f(g(1),g( 1 )))", "f(?a,?z)", "a");
        EDGE.due("none told", "1 4 7 10", tool.matches());
        tool.it.differ(25, 0, true);
        EDGE.due("told", "4 7", tool.matches());
        Tool rows = new Tool().with("f(1,1)", "f(*a,?b)", "a");
        rows.it.differ(0, 1, true);
        EDGE.due("a row and a hole", "0", rows.matches());
        Tool two = new Tool().with("f(g(1),h(1))", "f(g(*a),h(*b))", "a");
        two.it.differ(0, 1, true);
        EDGE.due("two rows", "0", two.matches());
        Tool one = new Tool().with("f(1,1)", "f(?a,?c)", "a");
        one.it.differ(0, 1, true);
        EDGE.due("one that the pattern has not", "0", one.matches());
        Tool deep = new Tool().with("f(g(1,2),1)", "f(@(?a),?b)", "a");
        EDGE.due("deep without", "a1x1 b4x1", deep.letters(0));
        deep.take(1, "f(g(@(?a),?c),?b)");
        deep.it.differ(0, 1, true);
        EDGE.due("deep with no other way", "", deep.matches());
        deep.take(0, "f(g(1(2),3),1(2))");
        EDGE.due("deep takes another one", "a3x1 b5x1 c4x1", deep.letters(0));
        Tool three = new Tool().with("f(1,2,1)", "f(?a,?b,?c)", "a");
        three.it.differ(0, 1, true);
        three.it.differ(1, 2, true);
        EDGE.due("those that are not told may be alike", "0", three.matches());
        three.it.differ(2, 0, true);
        EDGE.due("all three told", "", three.matches());
    }

    private static void firstWayCounts() {
        EDGE.of("Terms 2", "Of several ways to match a NODE the first one counts: the PATTERN gone over from the left, a ROW taking as few"
                + " as can be, DEEP the lowest NODE that can be.");
        EDGE.letters("f(1,2)", "f(*a,*b)", "a-1x0 b1x2");
        EDGE.letters("f(1,2)", "f(*a,?x,*b)", "a-1x0 b2x1 x1x1");
        EDGE.letters("f(1,2,2,1)", "f(*a,2,*b)", "a1x1 b3x2");
        EDGE.letters("f(1,2,2)", "f(*a,?x,?x,*b)", "a1x1 b-1x0 x2x1");
        EDGE.letters("f(g(h),h)", "@(?x)", "x0x1");
        EDGE.letters("f(g(h(1)),h(2))", "@(h(?x))", "x3x1");
        EDGE.letters("f(h(h(1)))", "@(h(?x))", "x2x1");
        EDGE.letters("f(g(1,2,3),3)", "f(@(?x),?x)", "x4x1");
        EDGE.letters("f(g(1),2,1,1)", "f(@(?x),*a,?x,*b)", "a3x1 b5x1 x2x1");
        EDGE.letters("f(g(2,1),h(1,2))", "f(@(?x),h(*a,?x,*b))", "a5x1 b-1x0 x2x1");
        EDGE.letters("f(h(1,2),g(2,1))", "f(h(*a,?x,*b),@(?x))", "a-1x0 b3x1 x2x1");
        EDGE.letters("f(1,g(2),3)", "f(*a,@(2),*b)", "a1x1 b4x1");
        EDGE.letters("f(1,g(2),3)", "f(*a,@(g(?x)),*b)", "a1x1 b4x1 x3x1");
        EDGE.letters("f(1,g(1,2),2)", "f(*a,@(?x),*b)", "a-1x0 b2x2 x1x1");
        EDGE.letters("f(g(1),1,2)", "f(@(?x),*a,?y,*b)", "a-1x0 b4x1 x1x1 y3x1");
        EDGE.matches("f(g,1)", "f(*a,?x,@(g),*b)", "");
        EDGE.letters("f(1,2,1,2)", "f(*a,*a)", "a1x2");
        EDGE.letters("f(k(1,2),k(2,1))", "f(k(*a,?x),k(?x,*b))", "a2x1 b6x1 x3x1");
        EDGE.letters("f(g(1,2),1,2,g(1,2))", "f(*a,@(?x),?x,*b)", "a-1x0 b5x2 x2x1");
    }

    private static void takes(String text, String pattern, int rule, String due) {
        EDGE.due("'" + pattern + "' in '" + text + "'", due, new Tool().with(text, pattern, "a").takes(rule));
    }

    private static void takenByRule0() {
        EDGE.of("Terms 2", "0 those that are within no other one that is;");
        takes("f(a,b)", "c", 0, "");
        takes("f(a,b)", "?x", 0, "0");
        takes("f(s(s(1)),s(2))", "s(?x)", 0, "1 4");
        takes("f(s(g(s(1))),2)", "s(?x)", 0, "1");
        takes("f(" + "a,".repeat(118) + "a)", "a", 0, numbers(1, 119));
    }

    private static void takenByRule1() {
        EDGE.of("Terms 2", "1 those that have no other one that is within them;");
        takes("f(a,b)", "c", 1, "");
        takes("f(a,b)", "?x", 1, "1 2");
        takes("f(s(s(1)),s(2))", "s(?x)", 1, "2 4");
        takes("f(s(g(s(1))),2)", "s(?x)", 1, "3");
        takes("s(s(1),s(s(2),s(3)))", "s(*r)", 1, "1 4 6");
        takes("f(a)", "?x", 1, "1");
        takes("f(g(a))", "?x", 1, "2");
        takes("f(" + "a,".repeat(118) + "a)", "?x", 1, numbers(1, 119));
    }

    private static void takenByRule2() {
        EDGE.of("Terms 2", "2 the greatest number of them none of which is within another one");
        takes("f(a,b)", "c", 2, "");
        takes("s(s(1),s(2))", "s(*r)", 2, "1 3");
        takes("f(a,b)", "?x", 2, "1 2");
        takes("f(a,b(c,d))", "?x", 2, "1 3 4");
        takes("s(f(s(1),g(s(2))))", "s(*r)", 2, "2 5");
        takes("f(s(s(1),s(2)),s(3))", "s(*r)", 2, "2 4 6");
        takes("f(s(1),g(s(s(2),s(3)),h))", "s(*r)", 2, "1 5 7");
        takes("a(" + "a,".repeat(118) + "a)", "?x", 2, numbers(1, 119));
    }

    private static void takenRatherThanAsManyWithin() {
        EDGE.of("Terms 2", "(of several such sets: a NODE is TAKEN rather than as many within it).");
        takes("s(s(s(1)))", "s(?x)", 2, "0");
        takes("s(f(s(1)))", "s(?x)", 2, "0");
        takes("f(a)", "?x", 2, "0");
        takes("f(a,b(c))", "?x", 2, "1 2");
        takes("f(s(s(1)),s(s(s(2))))", "s(?x)", 2, "1 4");
        takes("s(s(s(1)),s(s(2)))", "s(*r)", 2, "1 4");
        takes("s(s(s(1)),2)", "s(*r)", 2, "0");
    }

    private static String numbers(int first, int last) {
        StringBuilder told = new StringBuilder();
        for (int k = first; k <= last; k++) {
            told.append(k == first ? "" : " ").append(k);
        }
        return told.toString();
    }

    private static void spanBecomesTheTemplate() {
        EDGE.of("Terms 2", "the SPAN of each NODE TAKEN becomes the TEMPLATE's bytes (from its PIECE's first byte to its last one),");
        EDGE.becomes("a", "a", "b", "b");
        EDGE.becomes(" a\n", "a", "\nb ", " b\n");
        EDGE.becomes("f( a , a )", "a", " g ( h ) ", "f( g ( h ) , g ( h ) )");
        EDGE.becomes("f(a ( ) )", "a()", "b", "f(b )");
        EDGE.becomes("f(a)", "f(?x)", " ?x ", "a");
        EDGE.becomes("f(a,b)", "?x", "c", "c");
        EDGE.becomes("f(a)", "b", "c", "f(a)");
    }

    private static void holeBecomesItsSpan() {
        EDGE.of("Terms 2", "in it each HOLE the SPAN of what it is (its bytes as they were),");
        EDGE.becomes("f( a )", "f(?x)", "g(?x)", "g(a)");
        EDGE.becomes("f( a (\n1 , 2 ) )", "f(?x)", "g(?x, ?x)", "g(a (\n1 , 2 ), a (\n1 , 2 ))");
        EDGE.becomes("f(a( ),a())", "f(?x,?x)", "?x", "a( )");
        EDGE.becomes("f(a)", "?x", "?x", "f(a)");
        EDGE.becomes("f(a)", "?x", "g(?x)", "g(f(a))");
        EDGE.becomes("f(g(h( 1 )))", "f(@(h(?x)))", "k(?x)", "k(1)");
    }

    private static void rowBecomesItsBytes() {
        EDGE.of("Terms 2", "each ROW the bytes from its first NODE's first to its last NODE's last.");
        EDGE.becomes("f( 1 )", "f(*a)", "g(*a)", "g(1)");
        EDGE.becomes("f( 1 ,\n2 ( 3 ) )", "f(*a)", "g( *a)", "g( 1 ,\n2 ( 3 ))");
        EDGE.becomes("f(1 (2), 3,4)", "f(*a,?x)", "g(*a,?x,*a)", "g(1 (2), 3,4,1 (2), 3)");
        EDGE.becomes("f(1,2 , 3)", "f(?x,*a)", "g(h(*a))", "g(h(2 , 3))");
        EDGE.becomes("f(1,2,1, 2)", "f(*a,*a)", "g(*a)", "g(1,2)");
    }

    private static void rowOfNoneWithOneBehind() {
        EDGE.of("Terms 2", "A ROW of none goes with all up to the next one of the TERMS beside it;");
        EDGE.becomes("f()", "f(*a)", "g(*a,b)", "g(b)");
        EDGE.becomes("f()", "f(*a)", "g( *a\n, b )", "g( b )");
        EDGE.becomes("f()", "f(*a)", "g(b ,\n*a , c)", "g(b ,\nc)");
        EDGE.becomes("f()", "f(*a)", "g(*a , h(b))", "g(h(b))");
        EDGE.becomes("f(1)", "f(?x,*a)", "g(*a , ?x)", "g(1)");
        EDGE.becomes("f(1)", "f(?x,*a)", "g(h(?x , i) ,  *a , ?x)", "g(h(1 , i) ,  1)");
    }

    private static void rowOfNoneThatIsLast() {
        EDGE.of("Terms 2", "if there is none behind, with all from behind the one ahead of it on;");
        EDGE.becomes("f()", "f(*a)", "g(b,*a)", "g(b)");
        EDGE.becomes("f()", "f(*a)", "g( b\n, *a)", "g( b)");
        EDGE.becomes("f()", "f(*a)", "g(b,c , *a)", "g(b,c)");
        EDGE.becomes("f()", "f(*a)", "g(b ( c ) , *a)", "g(b ( c ))");
        EDGE.becomes("f()", "f(*a)", "g(h(b ,*a) ,c)", "g(h(b) ,c)");
        EDGE.becomes("f(1)", "f(?x,*a)", "g(?x , *a)", "g(1)");
        EDGE.becomes("f(1,2)", "f(*b,*a)", "g(*a , *b)", "g(1,2)");
    }

    private static void rowOfNoneThatIsAlone() {
        EDGE.of("Terms 2", "if it is alone, just itself.");
        EDGE.becomes("f()", "f(*a)", "g(*a)", "g()");
        EDGE.becomes("f()", "f(*a)", "g( *a\n)", "g( \n)");
        EDGE.becomes("f()", "f(*a)", "g(h(*a ),i( *a))", "g(h( ),i( ))");
        EDGE.becomes("f(f(),f(1))", "f(*a)", "f(*a)", "f(f(),f(1))");
        Tool tool = new Tool().with("f()", "f(*a)", "g(*a)");
        tool.it.put(0);
        EDGE.due("it is with ( ) still", "0-3 0 of -1", tool.spans());
    }

    private static void severalRowsOfNone() {
        EDGE.of("Terms 2", "(Several of none: from the left, each by those that are left.)");
        EDGE.becomes("f()", "f(*a,*b)", "g( *a , *b\n)", "g( \n)");
        EDGE.becomes("f()", "f(*a,*b)", "g( *a\n,*b , c )", "g( c )");
        EDGE.becomes("f()", "f(*a,*b)", "g( c , *a\n,*b)", "g( c)");
        EDGE.becomes("f()", "f(*a,*b)", "g( *a , c\n, *b)", "g( c)");
        EDGE.becomes("f()", "f(*a,*b)", "g(c\n, *a , d , *b)", "g(c\n, d)");
        EDGE.becomes("f()", "f(*a)", "g( *a ,*a,\n*a )", "g(  )");
        EDGE.becomes("f()", "f(*a)", "g(c , *a ,*a,\n*a)", "g(c)");
        EDGE.becomes("f()", "f(*a)", "g(" + "*a,".repeat(25) + "*a)", "g()");
        EDGE.becomes("f(1)", "f(*a,*b)", "g(*a , *b ,\n*a)", "g(1)");
        EDGE.becomes("f(1)", "f(*a,*b)", "g(*b , *a ,\n*b)", "g(1 , 1)");
        EDGE.becomes("f()", "f(*a)", "g(h( *a ) , *a)", "g(h(  ))");
        EDGE.becomes("f(g(),g(1),g(),g(2, 3))", "g(*a)", "h(*a , b)", "f(h(b),h(1 , b),h(b),h(2, 3 , b))");
        EDGE.becomes("f()", "f(*a)", "g(*a , h(b , *a))", "g(h(b))");
    }

    private static void allOtherBytesStay() {
        EDGE.of("Terms 2", "All other bytes stay.");
        EDGE.becomes("\n f ( a , b ( c ) ,\na )\n ", "a", "x", "\n f ( x , b ( c ) ,\nx )\n ");
        EDGE.becomes("f(  a  )", "a", "bb", "f(  bb  )");
        EDGE.becomes("f(a,g(a))", "g(?x)", "h", "f(a,h)");
    }

    private static void none() {
        EDGE.of("Terms", "The constants: `NONE = -1`: There is none; refused.");
        EDGE.due("NONE", -1, ShapeTool.NONE);
        EDGE.due("there is none", ShapeTool.NONE, new Tool().it.match(1));
        EDGE.due("refused", ShapeTool.NONE, new Tool().it.taken(3));
    }

    private static void the512thCall() {
        EDGE.of("What it is", "An object is used for at most 512 calls after it has been made;");
        // Nine calls feed and take the three, 502 put and go back: the next one is the 512th.
        Tool tool = new Tool().with("f(a)", "a", "a(a)");
        for (int k = 0; k < 251; k++) {
            EDGE.due("put", 1, tool.it.put(0));
            EDGE.due("back", true, tool.it.back());
        }
        EDGE.due("the 512th", 4, tool.it.count(0));
    }
}
