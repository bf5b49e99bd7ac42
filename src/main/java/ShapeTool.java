import java.util.NoSuchElementException;

/** Finds pieces of a text by their shape and puts others in their place; see README.md. */
public final class ShapeTool {
    public static final int NONE = -1;

    private static final int REFUSED = -2;

    private static final int TEXT = 0;
    private static final int PATTERN = 1;
    private static final int TEMPLATE = 2;

    private static final int OUTERMOST = 0;
    private static final int INNERMOST = 1;
    private static final int GREATEST = 2;

    private static final int TERM = 0;
    private static final int HOLE = 1;
    private static final int ROW = 2;
    private static final int DEEP = 3;

    private static final int MOST_BYTES = 240;
    private static final int MOST_SHAPE_BYTES = 80;
    private static final int MOST_FED = 20;
    // Two pieces never touch: some byte stands between them.
    private static final int MOST_PIECES = MOST_BYTES / 2;
    private static final int MOST_OPEN = 12;
    private static final int MOST_ROWS = 2;
    private static final int MOST_TIMES = 20;
    private static final int MOST_KEPT = 10;
    private static final int LETTERS = 26;

    // A feed is written behind the tape first and counts only if it is not too long.
    private final int[] tape;
    private int tapeLength;
    private final Tree text;
    private final Tree pattern;
    private final Tree template;
    // What is tried is read here first, so that a refusal leaves the others as they are.
    private final Tree spare;
    private final Reader reader;
    private final Finder finder;
    private final Chooser chooser;
    private final Putter putter;
    private final Past past;

    public ShapeTool() {
        tape = new int[MOST_BYTES + MOST_FED];
        tape[0] = 'a';
        text = new Tree();
        pattern = new Tree();
        template = new Tree();
        spare = new Tree();
        reader = new Reader();
        finder = new Finder(text, pattern);
        chooser = new Chooser(text, finder);
        putter = new Putter(text, template, finder);
        past = new Past();
        spare.load(tape, 1);
        reader.readTree(spare, TEXT);
        adoptSpare(TEXT);
        adoptSpare(PATTERN);
        adoptSpare(TEMPLATE);
    }

    public int feed(int a, int b, int c, int d, int e) {
        int length = writeFed(a, tapeLength);
        length = writeFed(b, length);
        length = writeFed(c, length);
        length = writeFed(d, length);
        length = writeFed(e, length);
        if (length > MOST_BYTES) {
            return NONE;
        }
        tapeLength = length;
        return length;
    }

    public boolean end(int n) {
        if (n < 0 || n > tapeLength) {
            return false;
        }
        tapeLength = n;
        return true;
    }

    public int fault(int what) {
        return readTape(what);
    }

    public boolean take(int what) {
        if (readTape(what) != NONE) {
            return false;
        }
        adoptSpare(what);
        tapeLength = 0;
        if (what == TEXT) {
            past.forget();
        } else if (what == PATTERN) {
            finder.forgetDifferences();
        }
        return true;
    }

    public boolean differ(int one, int other, boolean is) {
        if (!isLetter(one) || !isLetter(other) || one == other || finder.mustDiffer(one, other) == is) {
            return false;
        }
        finder.setDiffer(one, other, is);
        return true;
    }

    public int nodes() {
        return text.count;
    }

    public int node(int node, int what) {
        if (!isNode(node)) {
            return NONE;
        }
        switch (what) {
            case 0:
                return text.from[node];
            case 1:
                return text.behind[node];
            case 2:
                return Math.max(0, text.terms[node]);
            case 3:
                return text.parent[node];
            default:
                return NONE;
        }
    }

    public boolean alike(int one, int other) {
        return isNode(one) && isNode(other) && text.same[one] == text.same[other];
    }

    public int matches() {
        return finder.countMatched();
    }

    public int match(int i) {
        return finder.matchedAt(i);
    }

    public int hole(int node, int letter) {
        return isBound(node, letter) ? finder.firstNode(letter) : NONE;
    }

    public int row(int node, int letter) {
        return isBound(node, letter) ? finder.howMany(letter) : NONE;
    }

    public int taken(int rule) {
        if (!isRule(rule)) {
            return NONE;
        }
        finder.findAll();
        chooser.choose(rule);
        return chooser.many;
    }

    public int takes(int rule, int i) {
        if (!isRule(rule)) {
            return NONE;
        }
        finder.findAll();
        chooser.choose(rule);
        return i >= 0 && i < chooser.many ? chooser.chosen[i] : NONE;
    }

    public int put(int rule) {
        if (!mayPut(rule)) {
            return REFUSED;
        }
        past.write(text);
        int many = putOnce(rule);
        if (many != REFUSED) {
            past.keepWritten();
        }
        return many;
    }

    public int putAll(int rule) {
        if (!mayPut(rule)) {
            return REFUSED;
        }
        past.write(text);
        for (int times = 0; times <= MOST_TIMES; times++) {
            int many = putOnce(rule);
            if (many == 0) {
                past.keepWritten();
                return times;
            }
            // The first one is what put() would be: its refusal is put()'s, and no text has changed yet.
            if (many == REFUSED && times == 0) {
                return REFUSED;
            }
            if (many == REFUSED) {
                break;
            }
        }
        restoreWritten();
        return NONE;
    }

    public boolean back() {
        if (!past.stepBack()) {
            return false;
        }
        restoreWritten();
        return true;
    }

    public int at(int i) throws NoSuchElementException {
        if (i < 0 || i >= text.length) {
            throw new NoSuchElementException("the text has no such byte");
        }
        return text.bytes[i];
    }

    public int count(int what) {
        switch (what) {
            case 0:
                return text.length;
            case 1:
                return pattern.length;
            case 2:
                return template.length;
            case 3:
                return tapeLength;
            case 4:
                return past.kept;
            default:
                return NONE;
        }
    }

    private int writeFed(int number, int length) {
        int written = length;
        for (int shift = 24; shift >= 0; shift -= 8) {
            int fed = number >>> shift & 255;
            if (fed != 0 && written < tape.length) {
                tape[written] = fed;
                written++;
            }
        }
        return written;
    }

    private int readTape(int what) {
        if (what < TEXT || what > TEMPLATE || what != TEXT && tapeLength > MOST_SHAPE_BYTES) {
            return REFUSED;
        }
        spare.load(tape, tapeLength);
        return reader.readTree(spare, what);
    }

    private void adoptSpare(int what) {
        Tree tree = what == TEXT ? text : what == PATTERN ? pattern : template;
        tree.copyOf(spare);
        if (what == TEXT) {
            text.markAlike();
        } else if (what == PATTERN) {
            finder.preparePattern();
        }
        if (what != TEMPLATE) {
            finder.forgetMatched();
        }
    }

    private void restoreWritten() {
        past.readWritten(spare);
        reader.readTree(spare, TEXT);
        adoptSpare(TEXT);
    }

    private int putOnce(int rule) {
        finder.findAll();
        chooser.choose(rule);
        if (chooser.many == 0) {
            return 0;
        }
        if (!putter.build(spare, chooser) || reader.readTree(spare, TEXT) != NONE) {
            return REFUSED;
        }
        adoptSpare(TEXT);
        return chooser.many;
    }

    private boolean mayPut(int rule) {
        if (!isRule(rule)) {
            return false;
        }
        for (int letter = 0; letter < LETTERS; letter++) {
            int wanted = template.kindOf(letter);
            if (wanted != NONE && wanted != pattern.kindOf(letter)) {
                return false;
            }
        }
        return true;
    }

    private boolean isBound(int node, int letter) {
        return isNode(node) && isLetter(letter) && pattern.kindOf(letter) != NONE && finder.findWay(node);
    }

    private boolean isNode(int node) {
        return node >= 0 && node < text.count;
    }

    private static boolean isLetter(int letter) {
        return letter >= 0 && letter < LETTERS;
    }

    private static boolean isRule(int rule) {
        return rule >= OUTERMOST && rule <= GREATEST;
    }

    private static boolean isSmall(int c) {
        return c >= 'a' && c <= 'z';
    }

    private static boolean isAtomByte(int c) {
        return c >= 'a' && c <= 'z' || c >= '0' && c <= '9';
    }

    private static boolean isBlank(int c) {
        return c == ' ' || c == '\n';
    }

    /** Bytes and the pieces read from them, a piece's number below those of the pieces within it. */
    private static final class Tree {
        private final int[] bytes = new int[MOST_BYTES];
        private int length;
        private int count;
        private final int[] kind = new int[MOST_PIECES];
        private final int[] from = new int[MOST_PIECES];
        private final int[] atomBehind = new int[MOST_PIECES];
        private final int[] behind = new int[MOST_PIECES];
        private final int[] parent = new int[MOST_PIECES];
        // How many terms stand in its ( ), NONE without ( ).
        private final int[] terms = new int[MOST_PIECES];
        // How many pieces it is with all within it, so that the next one beside it is that much further.
        private final int[] size = new int[MOST_PIECES];
        private final int[] letter = new int[MOST_PIECES];
        private final int[] firstOf = new int[LETTERS];
        // Alike nodes have one number here, and no others have it.
        private final int[] same = new int[MOST_PIECES];

        void load(int[] source, int many) {
            length = 0;
            append(source, 0, many);
        }

        void copyOf(Tree other) {
            length = other.length;
            count = other.count;
            System.arraycopy(other.bytes, 0, bytes, 0, length);
            System.arraycopy(other.kind, 0, kind, 0, count);
            System.arraycopy(other.from, 0, from, 0, count);
            System.arraycopy(other.atomBehind, 0, atomBehind, 0, count);
            System.arraycopy(other.behind, 0, behind, 0, count);
            System.arraycopy(other.parent, 0, parent, 0, count);
            System.arraycopy(other.terms, 0, terms, 0, count);
            System.arraycopy(other.size, 0, size, 0, count);
            System.arraycopy(other.letter, 0, letter, 0, count);
            System.arraycopy(other.firstOf, 0, firstOf, 0, LETTERS);
        }

        boolean append(int[] source, int first, int end) {
            int many = end - first;
            if (first < 0 || many < 0 || end > source.length || many > MOST_BYTES - length) {
                return false;
            }
            System.arraycopy(source, first, bytes, length, many);
            length += many;
            return true;
        }

        int kindOf(int sought) {
            int piece = firstOf[sought];
            return piece == NONE ? NONE : kind[piece];
        }

        int next(int node) {
            return node >= 0 && node < count ? node + size[node] : count;
        }

        int lastByteBehind(int first, int many) {
            int last = first;
            for (int k = 1; k < many; k++) {
                last = next(last);
            }
            return last >= 0 && last < count ? behind[last] : 0;
        }

        void markAlike() {
            // From the last one down: a node's number is asked for only after those within it have theirs.
            for (int node = count - 1; node >= 0; node--) {
                same[node] = node;
                for (int other = node + 1; other < count; other++) {
                    if (size[other] == size[node] && looksAlike(node, other)) {
                        same[node] = same[other];
                        break;
                    }
                }
            }
        }

        private boolean looksAlike(int one, int other) {
            if (terms[one] != terms[other] || !sameAtom(this, one, this, other)) {
                return false;
            }
            int mine = one + 1;
            int its = other + 1;
            for (int k = 0; k < terms[one]; k++) {
                if (mine >= count || its >= count || same[mine] != same[its]) {
                    return false;
                }
                mine = next(mine);
                its = next(its);
            }
            return true;
        }

        static boolean sameAtom(Tree tree, int piece, Tree other, int otherPiece) {
            int first = tree.from[piece];
            int otherFirst = other.from[otherPiece];
            int many = tree.atomBehind[piece] - first;
            if (many != other.atomBehind[otherPiece] - otherFirst) {
                return false;
            }
            for (int k = 0; k < many; k++) {
                if (tree.bytes[first + k] != other.bytes[otherFirst + k]) {
                    return false;
                }
            }
            return true;
        }
    }

    /** Reads a tree's bytes into its pieces, or tells the first byte that cannot go on. */
    private static final class Reader {
        private static final int WANTS_PIECE = 0;
        private static final int WANTS_PIECE_OR_CLOSING = 1;
        private static final int WANTS_OPENING = 2;
        private static final int BEHIND_ATOM = 3;
        private static final int BEHIND_PIECE = 4;

        private int what;
        private int pos;
        private int state;
        // The piece whose ( was opened last and is not closed.
        private int open;
        private int depth;
        private int rows;
        private int deep;
        private boolean withinDeep;

        int readTree(Tree tree, int asWhat) {
            start(tree, asWhat);
            for (int step = 0; step <= tree.length; step++) {
                skipBlanks(tree);
                if (pos >= tree.length) {
                    return open == NONE && state >= BEHIND_ATOM ? NONE : tree.length;
                }
                if (!readToken(tree, tree.bytes[pos])) {
                    return pos;
                }
            }
            return pos;
        }

        private void start(Tree tree, int asWhat) {
            what = asWhat;
            pos = 0;
            state = WANTS_PIECE;
            open = NONE;
            depth = 0;
            rows = 0;
            deep = NONE;
            withinDeep = false;
            tree.count = 0;
            for (int letter = 0; letter < LETTERS; letter++) {
                tree.firstOf[letter] = NONE;
            }
        }

        private void skipBlanks(Tree tree) {
            while (pos < tree.length && isBlank(tree.bytes[pos])) {
                pos++;
            }
        }

        // Each of these goes past what it has read, or answers false and leaves pos at the fault.
        private boolean readToken(Tree tree, int c) {
            switch (state) {
                case WANTS_PIECE:
                    return readPiece(tree, c);
                case WANTS_PIECE_OR_CLOSING:
                    return c == ')' ? readClosing(tree) : readPiece(tree, c);
                case WANTS_OPENING:
                    return c == '(' && readOpening(tree);
                case BEHIND_ATOM:
                    return c == '(' ? readOpening(tree) : readBehindPiece(tree, c);
                default:
                    return readBehindPiece(tree, c);
            }
        }

        private boolean readPiece(Tree tree, int c) {
            if (isAtomByte(c)) {
                return readAtom(tree);
            }
            switch (c) {
                case '?':
                    return what != TEXT && readLettered(tree, HOLE);
                case '*':
                    return rowMayStand(tree) && readLettered(tree, ROW);
                case '@':
                    return what == PATTERN && deep == NONE && readDeep(tree);
                default:
                    return false;
            }
        }

        private boolean rowMayStand(Tree tree) {
            if (what == TEXT || !isWithinTerm(tree)) {
                return false;
            }
            return what == TEMPLATE || rows < MOST_ROWS && !withinDeep;
        }

        private boolean isWithinTerm(Tree tree) {
            return open != NONE && tree.kind[open] == TERM;
        }

        private boolean readAtom(Tree tree) {
            int end = pos + 1;
            while (end < tree.length && isAtomByte(tree.bytes[end])) {
                end++;
            }
            state = BEHIND_ATOM;
            return addPiece(tree, TERM, end);
        }

        private boolean readLettered(Tree tree, int kind) {
            int end = pos + 1;
            if (end >= tree.length || !isSmall(tree.bytes[end])) {
                pos = end;
                return false;
            }
            int letter = tree.bytes[end] - 'a';
            int known = tree.kindOf(letter);
            if (known != NONE && known != kind || !addPiece(tree, kind, end + 1)) {
                return false;
            }
            int piece = tree.count - 1;
            tree.letter[piece] = letter;
            if (known == NONE) {
                tree.firstOf[letter] = piece;
            }
            if (kind == ROW) {
                rows++;
            }
            state = BEHIND_PIECE;
            return true;
        }

        private boolean readDeep(Tree tree) {
            deep = tree.count;
            withinDeep = true;
            state = WANTS_OPENING;
            return addPiece(tree, DEEP, pos + 1);
        }

        private boolean addPiece(Tree tree, int kind, int end) {
            int piece = tree.count;
            if (piece >= MOST_PIECES) {
                return false;
            }
            tree.kind[piece] = kind;
            tree.from[piece] = pos;
            tree.atomBehind[piece] = end;
            tree.behind[piece] = end;
            tree.parent[piece] = open;
            tree.terms[piece] = NONE;
            tree.size[piece] = 1;
            tree.letter[piece] = NONE;
            if (open != NONE && tree.kind[open] == TERM) {
                tree.terms[open]++;
            }
            tree.count = piece + 1;
            pos = end;
            return true;
        }

        private boolean readOpening(Tree tree) {
            if (depth >= MOST_OPEN || tree.count == 0) {
                return false;
            }
            open = tree.count - 1;
            depth++;
            pos++;
            if (tree.kind[open] == TERM) {
                tree.terms[open] = 0;
                state = WANTS_PIECE_OR_CLOSING;
            } else {
                state = WANTS_PIECE;
            }
            return true;
        }

        private boolean readBehindPiece(Tree tree, int c) {
            if (c == ')') {
                return readClosing(tree);
            }
            if (c != ',' || !isWithinTerm(tree)) {
                return false;
            }
            pos++;
            state = WANTS_PIECE;
            return true;
        }

        private boolean readClosing(Tree tree) {
            if (open == NONE) {
                return false;
            }
            pos++;
            depth--;
            tree.behind[open] = pos;
            tree.size[open] = tree.count - open;
            if (open == deep) {
                withinDeep = false;
            }
            open = tree.parent[open];
            state = BEHIND_PIECE;
            return true;
        }
    }

    /** Matches the pattern with nodes of the text. */
    private static final class Finder {
        private final Tree text;
        private final Tree pattern;
        // The way in which the pattern was last found to match: a piece's first node and how many it takes.
        private final int[] nodeOf = new int[MOST_PIECES];
        private final int[] takenBy = new int[MOST_PIECES];
        // Of a term's node while it is gone over: the next one of its terms, and how many are left.
        private final int[] nextTerm = new int[MOST_PIECES];
        private final int[] leftTerms = new int[MOST_PIECES];
        // Of a term, or behind a row in its term: how many pieces take just one node.
        private final int[] singles = new int[MOST_PIECES];
        // What can be chosen: the earlier of two rows of one term, and deep; a piece's number behind all if none is.
        private int freeRow;
        private int deep;
        private int rowChoice;
        private int deepChoice;
        private final int[] differing = new int[LETTERS];
        private final int[] matched = new int[MOST_PIECES];
        private int matchedCount;
        private final boolean[] isMatched = new boolean[MOST_PIECES];
        private boolean known;

        Finder(Tree text, Tree pattern) {
            this.text = text;
            this.pattern = pattern;
        }

        void forgetMatched() {
            known = false;
        }

        void forgetDifferences() {
            for (int letter = 0; letter < LETTERS; letter++) {
                differing[letter] = 0;
            }
            known = false;
        }

        boolean mustDiffer(int one, int other) {
            return (differing[one] >> other & 1) == 1;
        }

        void setDiffer(int one, int other, boolean is) {
            int its = 1 << other;
            int mine = 1 << one;
            differing[one] = is ? differing[one] | its : differing[one] & ~its;
            differing[other] = is ? differing[other] | mine : differing[other] & ~mine;
            known = false;
        }

        int countMatched() {
            findAll();
            return matchedCount;
        }

        int matchedAt(int i) {
            findAll();
            return i >= 0 && i < matchedCount ? matched[i] : NONE;
        }

        int firstNode(int letter) {
            int piece = pattern.firstOf[letter];
            return piece == NONE ? NONE : nodeOf[piece];
        }

        int howMany(int letter) {
            int piece = pattern.firstOf[letter];
            return piece == NONE ? NONE : takenBy[piece];
        }

        void findAll() {
            if (known) {
                return;
            }
            matchedCount = 0;
            for (int node = 0; node < text.count; node++) {
                isMatched[node] = findWay(node);
                if (isMatched[node]) {
                    matched[matchedCount] = node;
                    matchedCount++;
                }
            }
            known = true;
        }

        void preparePattern() {
            freeRow = pattern.count;
            deep = pattern.count;
            int row = NONE;
            for (int piece = 0; piece < pattern.count; piece++) {
                singles[piece] = countSingles(piece);
                if (pattern.kind[piece] == DEEP) {
                    deep = piece;
                }
                if (pattern.kind[piece] == ROW) {
                    if (row != NONE && pattern.parent[row] == pattern.parent[piece]) {
                        freeRow = row;
                    }
                    row = piece;
                }
            }
        }

        private int countSingles(int piece) {
            int term = pattern.kind[piece] == ROW ? pattern.parent[piece] : piece;
            int many = 0;
            for (int other = piece + 1; other < pattern.count; other++) {
                if (pattern.parent[other] == term && pattern.kind[other] != ROW) {
                    many++;
                }
            }
            return many;
        }

        // The choices go up as the digits of a number, the one that is further left in the pattern being the higher;
        // one that the failing piece does not depend on is not tried further.
        boolean findWay(int node) {
            boolean rowFirst = freeRow < deep;
            int early = Math.min(freeRow, deep);
            int late = Math.max(freeRow, deep);
            int first = 0;
            int second = 0;
            int ways = (text.count + 1) * (text.count + 1);
            for (int way = 0; way < ways; way++) {
                rowChoice = rowFirst ? first : second;
                deepChoice = rowFirst ? second : first;
                int failing = firstFailing(node);
                if (failing >= pattern.count) {
                    return true;
                }
                if (failing > late) {
                    second++;
                } else if (failing > early) {
                    first++;
                    second = 0;
                } else {
                    return false;
                }
            }
            return false;
        }

        private int firstFailing(int root) {
            for (int piece = 0; piece < pattern.count; piece++) {
                boolean fits;
                if (pattern.kind[piece] == ROW) {
                    fits = rowFits(piece);
                } else if (!seatPiece(piece, root)) {
                    fits = false;
                } else if (pattern.kind[piece] == TERM) {
                    fits = termFits(piece, nodeOf[piece]);
                } else if (pattern.kind[piece] == HOLE) {
                    fits = holeFits(piece, nodeOf[piece]);
                } else {
                    fits = deepChoice < text.size[nodeOf[piece]];
                }
                if (!fits) {
                    return piece;
                }
            }
            return pattern.count;
        }

        private boolean seatPiece(int piece, int root) {
            int node = piece == 0 ? root : nextNode(pattern.parent[piece]);
            nodeOf[piece] = node;
            takenBy[piece] = 1;
            return node >= 0 && node < text.count;
        }

        private int nextNode(int parent) {
            if (parent < 0) {
                return NONE;
            }
            if (pattern.kind[parent] == DEEP) {
                return nodeOf[parent] + deepChoice;
            }
            int node = nextTerm[parent];
            if (leftTerms[parent] <= 0 || node < 0 || node >= text.count) {
                return NONE;
            }
            nextTerm[parent] = node + text.size[node];
            leftTerms[parent]--;
            return node;
        }

        private boolean termFits(int piece, int node) {
            int terms = text.terms[node];
            int wanted = pattern.terms[piece];
            if (!Tree.sameAtom(text, node, pattern, piece)) {
                return false;
            }
            if (terms == NONE || wanted == NONE) {
                return terms == wanted;
            }
            nextTerm[piece] = node + 1;
            leftTerms[piece] = terms;
            boolean hasRow = singles[piece] < wanted;
            return hasRow ? terms >= singles[piece] : terms == wanted;
        }

        private boolean holeFits(int piece, int node) {
            int letter = pattern.letter[piece];
            int first = pattern.firstOf[letter];
            if (first != piece) {
                return text.same[nodeOf[first]] == text.same[node];
            }
            if (differing[letter] == 0) {
                return true;
            }
            for (int other = 0; other < LETTERS; other++) {
                int its = pattern.firstOf[other];
                if (mustDiffer(letter, other) && its != NONE && its < piece && pattern.kind[its] == HOLE
                        && text.same[nodeOf[its]] == text.same[node]) {
                    return false;
                }
            }
            return true;
        }

        private boolean rowFits(int piece) {
            int term = pattern.parent[piece];
            if (term < 0) {
                return false;
            }
            int most = leftTerms[term] - singles[piece];
            int many = piece == freeRow ? rowChoice : most;
            if (many < 0 || many > most) {
                return false;
            }
            nodeOf[piece] = many == 0 ? NONE : nextTerm[term];
            takenBy[piece] = many;
            for (int k = 0; k < many; k++) {
                nextTerm[term] = text.next(nextTerm[term]);
            }
            leftTerms[term] -= many;
            int first = pattern.firstOf[pattern.letter[piece]];
            return first == piece || rowsAlike(first, piece);
        }

        private boolean rowsAlike(int one, int other) {
            if (takenBy[one] != takenBy[other]) {
                return false;
            }
            int mine = nodeOf[one];
            int its = nodeOf[other];
            for (int k = 0; k < takenBy[one]; k++) {
                if (mine < 0 || its < 0 || mine >= text.count || its >= text.count) {
                    return false;
                }
                if (text.same[mine] != text.same[its]) {
                    return false;
                }
                mine += text.size[mine];
                its += text.size[its];
            }
            return true;
        }
    }

    /** Chooses by a rule which of the matched nodes are taken. */
    private static final class Chooser {
        private final Tree text;
        private final Finder finder;
        private final int[] chosen = new int[MOST_PIECES];
        private int many;
        // How many matched nodes within a node have none within themselves: the most that can be taken there.
        private final int[] within = new int[MOST_PIECES];

        Chooser(Tree text, Finder finder) {
            this.text = text;
            this.finder = finder;
        }

        // The finder has found all before. Going down from the root, a node is taken if it costs no more taken ones within it than the rule allows.
        void choose(int rule) {
            countWithin();
            int allowed = rule == OUTERMOST ? MOST_PIECES : rule == INNERMOST ? 0 : 1;
            int behindTaken = 0;
            many = 0;
            for (int node = 0; node < text.count; node++) {
                if (node >= behindTaken && finder.isMatched[node] && within[node] <= allowed) {
                    chosen[many] = node;
                    many++;
                    behindTaken = text.next(node);
                }
            }
        }

        private void countWithin() {
            for (int node = 0; node < text.count; node++) {
                within[node] = 0;
            }
            for (int node = text.count - 1; node > 0; node--) {
                int parent = text.parent[node];
                if (parent >= 0) {
                    within[parent] += finder.isMatched[node] && within[node] == 0 ? 1 : within[node];
                }
            }
        }
    }

    /** Writes the text with the template in the place of the nodes taken. */
    private static final class Putter {
        private final Tree text;
        private final Tree template;
        private final Finder finder;
        // The template's bytes that go with rows of none.
        private final boolean[] gone = new boolean[MOST_SHAPE_BYTES];

        Putter(Tree text, Tree template, Finder finder) {
            this.text = text;
            this.template = template;
            this.finder = finder;
        }

        // False: too long.
        boolean build(Tree into, Chooser chooser) {
            into.length = 0;
            int done = 0;
            for (int k = 0; k < chooser.many; k++) {
                int node = chooser.chosen[k];
                if (!into.append(text.bytes, done, text.from[node]) || !finder.findWay(node) || !fillTemplate(into)) {
                    return false;
                }
                done = text.behind[node];
            }
            return into.append(text.bytes, done, text.length);
        }

        private boolean fillTemplate(Tree into) {
            dropRowsOfNone();
            int end = Math.min(template.behind[0], MOST_SHAPE_BYTES);
            boolean atLetter = false;
            for (int i = template.from[0]; i < end; i++) {
                int c = template.bytes[i];
                boolean fits = true;
                if (atLetter) {
                    fits = gone[i] || fillLetter(into, c - 'a');
                    atLetter = false;
                } else if (c == '?' || c == '*') {
                    atLetter = true;
                } else {
                    fits = gone[i] || into.append(template.bytes, i, i + 1);
                }
                if (!fits) {
                    return false;
                }
            }
            return true;
        }

        private boolean fillLetter(Tree into, int letter) {
            int first = finder.firstNode(letter);
            int many = finder.howMany(letter);
            return first == NONE || into.append(text.bytes, text.from[first], text.lastByteBehind(first, many));
        }

        private void dropRowsOfNone() {
            for (int i = 0; i < MOST_SHAPE_BYTES; i++) {
                gone[i] = false;
            }
            for (int piece = 0; piece < template.count; piece++) {
                if (template.kind[piece] == ROW && finder.howMany(template.letter[piece]) == 0) {
                    dropRow(piece);
                }
            }
        }

        private void dropRow(int row) {
            int next = row + 1;
            if (next < template.count && template.parent[next] == template.parent[row]) {
                dropBytes(template.from[row], template.from[next]);
                return;
            }
            int ahead = pieceAhead(row);
            dropBytes(ahead == NONE ? template.from[row] : template.behind[ahead], template.behind[row]);
        }

        private int pieceAhead(int row) {
            for (int piece = row - 1; piece >= 0; piece--) {
                if (template.parent[piece] == template.parent[row] && !gone[template.from[piece]]) {
                    return piece;
                }
            }
            return NONE;
        }

        private void dropBytes(int first, int end) {
            for (int i = first; i < end && i < MOST_SHAPE_BYTES; i++) {
                gone[i] = true;
            }
        }
    }

    /** The texts that can be gone back to, in a ring with one place more, so that a text can be tried in it. */
    private static final class Past {
        private static final int PLACES = MOST_KEPT + 1;

        private final int[][] texts = new int[PLACES][MOST_BYTES];
        private final int[] lengths = new int[PLACES];
        private int place;
        private int kept;

        void write(Tree text) {
            System.arraycopy(text.bytes, 0, texts[place], 0, text.length);
            lengths[place] = text.length;
        }

        void keepWritten() {
            place = place + 1 < PLACES ? place + 1 : 0;
            kept = Math.min(kept + 1, MOST_KEPT);
        }

        void readWritten(Tree into) {
            into.load(texts[place], lengths[place]);
        }

        boolean stepBack() {
            if (kept == 0) {
                return false;
            }
            kept--;
            place = place > 0 ? place - 1 : PLACES - 1;
            return true;
        }

        void forget() {
            kept = 0;
        }
    }
}
