/**
 * Reads texts of declarations with terms and types into trees with places, keeps two of these,
 * compares them, and writes trees as texts again with the fewest brackets.
 *
 * <p>Nothing here is recursive, because terms may nest thousands deep to the right and to the left;
 * and no call makes an object, because all rows are made with the reader and used again.
 */
public final class TermReader {
    public static final int NONE = -1;

    private static final int MOST_BYTES = 8000;
    private static final int FED_AT_ONCE = 20;
    private static final int LONGEST_NAME = 40;
    private static final int DEEPEST_TERM = 100;

    /** The text itself, and for each of its bytes one node at the most. */
    private static final int MOST_NODES = MOST_BYTES + 1;

    /** Each token has a byte at least, but for the end. */
    private static final int MOST_TOKENS = MOST_BYTES + 1;

    private final Bytes fed;
    private final Names known;
    private final Tree first;
    private final Tree second;
    private final Parser parser;
    private final Writer writer;
    private int lastFault;

    public TermReader() {
        fed = new Bytes();
        known = new Names();
        first = new Tree();
        second = new Tree();
        parser = new Parser();
        writer = new Writer();
        lastFault = NONE;
    }

    public int feed(int a, int b, int c, int d, int e) {
        if (fed.length > MOST_BYTES - FED_AT_ONCE) {
            return NONE;
        }
        fed.putFour(a);
        fed.putFour(b);
        fed.putFour(c);
        fed.putFour(d);
        fed.putFour(e);
        return fed.length;
    }

    public int read(int tree, int n) {
        Tree target = treeOf(tree);
        if (target == null || n < 0 || n > fed.length) {
            return NONE;
        }
        lastFault = parser.parse(fed, n);
        parser.growth.layOut(target);
        target.numberNames(known, fed);
        fed.clear();
        return target.tell(0, Tree.PARTS);
    }

    public int fault() {
        return lastFault;
    }

    public int nodes(int tree) {
        Tree asked = treeOf(tree);
        return asked == null ? NONE : asked.count;
    }

    public int node(int tree, int k, int what) {
        Tree asked = treeOf(tree);
        return asked == null ? NONE : asked.tell(k, what);
    }

    public int part(int tree, int k, int i) {
        Tree asked = treeOf(tree);
        return asked == null ? NONE : asked.partOf(k, i);
    }

    public int whole(int tree, int k) {
        Tree asked = treeOf(tree);
        return asked == null ? NONE : asked.wholeOf(k);
    }

    public int names() {
        return known.count;
    }

    public int spelt(int name, int i) {
        return known.byteOf(name, i);
    }

    public int write(int tree, int k) {
        Tree asked = treeOf(tree);
        return asked == null || !asked.has(k) ? NONE : writer.show(asked, known, k);
    }

    public int written(int i) {
        return writer.shown.at(i);
    }

    public int again() {
        fed.copy(writer.shown);
        return fed.length;
    }

    public boolean same() {
        return first.equalsButForPlaces(second);
    }

    private Tree treeOf(int tree) {
        if (tree == 0) {
            return first;
        }
        return tree == 1 ? second : null;
    }

    /** The kinds of nodes. */
    private static final class Kind {
        static final int TEXT = 0;
        static final int AXIOM = 1;
        static final int DEF = 2;
        static final int LEMMA = 3;
        static final int DATA = 4;
        static final int CONSTRUCTOR = 5;
        static final int CHECK = 6;
        static final int NORM = 7;
        static final int GROUP = 8;
        static final int BINDER = 9;
        static final int FUN = 10;
        static final int ALL = 11;
        static final int LET = 12;
        static final int ARROW = 13;
        static final int APPLICATION = 14;
        static final int TYPED = 15;
        static final int NAME = 16;
        static final int SORT = 17;
        static final int REC = 18;
        static final int NOTHING = 19;

        private Kind() {
        }

        /** Whether a term of this kind goes on to the right as far as it can. */
        static boolean isOpenToTheRight(int kind) {
            return kind == FUN || kind == ALL || kind == LET || kind == ARROW;
        }
    }

    /** The kinds of tokens; they are also the rules that take just this token. */
    private static final class Token {
        static final int END = 0;
        static final int BAD = 1;
        static final int NAME = 2;
        static final int SORT = 3;
        static final int AXIOM = 4;
        static final int DEF = 5;
        static final int LEMMA = 6;
        static final int DATA = 7;
        static final int CHECK = 8;
        static final int NORM = 9;
        static final int FUN = 10;
        static final int ALL = 11;
        static final int LET = 12;
        static final int IN = 13;
        static final int REC = 14;
        static final int OPEN = 15;
        static final int CLOSE = 16;
        static final int COLON = 17;
        static final int ASSIGN = 18;
        static final int YIELDS = 19;
        static final int ARROW = 20;
        static final int COMMA = 21;
        static final int STOP = 22;
        static final int BAR = 23;

        static final int FIRST_WORD = AXIOM;
        static final int LAST_WORD = REC;

        private Token() {
        }

        /** How a token is spelt; no bytes for those that are not always spelt the same way. */
        static String spelling(int token) {
            switch (token) {
                case AXIOM: return "axiom";
                case DEF: return "def";
                case LEMMA: return "lemma";
                case DATA: return "data";
                case CHECK: return "check";
                case NORM: return "norm";
                case FUN: return "fun";
                case ALL: return "all";
                case LET: return "let";
                case IN: return "in";
                case REC: return "rec";
                case OPEN: return "(";
                case CLOSE: return ")";
                case COLON: return ":";
                case ASSIGN: return ":=";
                case YIELDS: return "=>";
                case ARROW: return "->";
                case COMMA: return ",";
                case STOP: return ".";
                case BAR: return "|";
                default: return "";
            }
        }

        static int signOf(int byteThere, int byteBehind) {
            switch (byteThere) {
                case '(': return OPEN;
                case ')': return CLOSE;
                case ',': return COMMA;
                case '.': return STOP;
                case '|': return BAR;
                case ':': return byteBehind == '=' ? ASSIGN : COLON;
                case '=': return byteBehind == '>' ? YIELDS : BAD;
                case '-': return byteBehind == '>' ? ARROW : BAD;
                default: return BAD;
            }
        }

        static boolean beginsAtom(int token) {
            return token == NAME || token == SORT || token == REC || token == OPEN;
        }
    }

    /** The rules of the grammar that take more than a token, and the rows of rules that they become. */
    private static final class Rule {
        /** Smaller numbers are tokens. */
        static final int FIRST_RULE = 30;
        static final int GROUPS = FIRST_RULE;
        static final int GROUP = 31;
        static final int BINDERS = 32;
        static final int BINDER = 33;
        static final int MORE_BINDERS = 34;
        static final int CONSTRUCTORS = 35;
        static final int TYPE_OR_NOTHING = 36;
        static final int TERM = 37;
        static final int DEEPER_TERM = 38;
        static final int RISE = 39;
        static final int ATOM = 40;
        static final int MORE_ATOMS = 41;
        static final int JOIN_ATOMS = 42;
        static final int JOIN_ARROW = 43;
        static final int NAME = 44;
        static final int SORT = 45;
        static final int BRACKET_ENDS = 46;

        /** FINISH and a kind: the node that was begun last is now whole, and of this kind. */
        static final int FINISH = 60;

        static final int[] AXIOM_ROW = {
            Token.AXIOM, BINDER, GROUPS, Token.COLON, DEEPER_TERM, Token.STOP, FINISH + Kind.AXIOM};
        static final int[] DEF_ROW = {
            Token.DEF, BINDER, GROUPS, TYPE_OR_NOTHING, Token.ASSIGN, DEEPER_TERM, Token.STOP,
            FINISH + Kind.DEF};
        static final int[] LEMMA_ROW = {
            Token.LEMMA, BINDER, GROUPS, Token.COLON, DEEPER_TERM, Token.ASSIGN, DEEPER_TERM,
            Token.STOP, FINISH + Kind.LEMMA};
        static final int[] DATA_ROW = {
            Token.DATA, BINDER, GROUPS, Token.COLON, DEEPER_TERM, CONSTRUCTORS, Token.STOP,
            FINISH + Kind.DATA};
        static final int[] CONSTRUCTORS_ROW = {
            Token.BAR, BINDER, Token.COLON, DEEPER_TERM, FINISH + Kind.CONSTRUCTOR, CONSTRUCTORS};
        static final int[] CHECK_ROW = {
            Token.CHECK, DEEPER_TERM, TYPE_OR_NOTHING, Token.STOP, FINISH + Kind.CHECK};
        static final int[] NORM_ROW = {
            Token.NORM, DEEPER_TERM, Token.STOP, FINISH + Kind.NORM};
        static final int[] GROUPS_ROW = {GROUP, GROUPS};
        static final int[] GROUP_ROW = {
            Token.OPEN, BINDER, MORE_BINDERS, Token.COLON, DEEPER_TERM, Token.CLOSE,
            FINISH + Kind.GROUP};
        static final int[] BARE_GROUP_ROW = {
            BINDER, MORE_BINDERS, Token.COLON, DEEPER_TERM, FINISH + Kind.GROUP};
        static final int[] MORE_BINDERS_ROW = {BINDER, MORE_BINDERS};
        static final int[] TYPE_ROW = {Token.COLON, DEEPER_TERM};
        static final int[] DEEPER_TERM_ROW = {TERM, RISE};
        static final int[] FUN_ROW = {Token.FUN, BINDERS, Token.YIELDS, TERM, FINISH + Kind.FUN};
        static final int[] ALL_ROW = {Token.ALL, BINDERS, Token.COMMA, TERM, FINISH + Kind.ALL};
        static final int[] LET_ROW = {
            Token.LET, BINDER, TYPE_OR_NOTHING, Token.ASSIGN, DEEPER_TERM, Token.IN, TERM,
            FINISH + Kind.LET};
        static final int[] ATOMS_ROW = {ATOM, MORE_ATOMS};
        static final int[] MORE_ATOMS_ROW = {ATOM, JOIN_ATOMS, MORE_ATOMS};
        static final int[] ARROW_ROW = {Token.ARROW, TERM, JOIN_ARROW};
        static final int[] REC_ROW = {Token.REC, NAME, SORT, FINISH + Kind.REC};
        static final int[] BRACKET_ROW = {Token.OPEN, DEEPER_TERM, BRACKET_ENDS};
        static final int[] TYPED_ROW = {
            Token.COLON, DEEPER_TERM, Token.CLOSE, FINISH + Kind.TYPED};
        static final int[] CLOSE_ROW = {Token.CLOSE};

        private Rule() {
        }
    }

    /** A row of at most MOST_BYTES bytes. */
    private static final class Bytes {
        private final byte[] row;
        int length;

        /** Whether there were more bytes than the row can hold. */
        boolean overrun;

        Bytes() {
            row = new byte[MOST_BYTES];
            length = 0;
            overrun = false;
        }

        void clear() {
            length = 0;
            overrun = false;
        }

        void put(int value) {
            if (length >= MOST_BYTES) {
                overrun = true;
                return;
            }
            row[length] = (byte) value;
            length++;
        }

        void putFour(int word) {
            put(word >>> 24);
            put(word >>> 16);
            put(word >>> 8);
            put(word);
        }

        int at(int i) {
            return i >= 0 && i < length ? row[i] & 255 : NONE;
        }

        void copy(Bytes other) {
            System.arraycopy(other.row, 0, row, 0, other.length);
            length = other.length;
            overrun = false;
        }
    }

    /** All names that were read, with their numbers. */
    private static final class Names {
        // 512 calls feed at most 10240 bytes, and what comes by again has no new names. 53 names have
        // one byte, and each other one takes three: two of its own and one behind it. That leaves
        // both numbers out of reach.
        private static final int MOST_NAMES = 4096;
        private static final int MOST_SPELLING = 12288;
        private static final int BUCKETS = 1024;

        private final byte[] spelling;
        private final int[] starts;

        /** A name's number and 1, of the name that came last into a bucket, or 0. */
        private final int[] newest;

        /** The same of the name that came into a name's bucket before it. */
        private final int[] older;
        int count;

        Names() {
            spelling = new byte[MOST_SPELLING];
            starts = new int[MOST_NAMES + 1];
            newest = new int[BUCKETS];
            older = new int[MOST_NAMES];
            count = 0;
        }

        int lengthOf(int name) {
            return name >= 0 && name < count ? starts[name + 1] - starts[name] : 0;
        }

        int byteOf(int name, int i) {
            return i >= 0 && i < lengthOf(name) ? spelling[starts[name] + i] : NONE;
        }

        /** The number of the name in a text, a new one if it has none; NONE if there is no room. */
        int numberOf(Bytes text, int from, int length) {
            int bucket = bucketOf(text, from, length);
            int name = newest[bucket] - 1;
            for (int tried = 0; tried < count && name >= 0 && name < count; tried++) {
                if (isSpelt(name, text, from, length)) {
                    return name;
                }
                name = older[name] - 1;
            }
            return addName(text, from, length, bucket);
        }

        private static int bucketOf(Bytes text, int from, int length) {
            int sum = 0;
            for (int i = 0; i < length; i++) {
                sum = 31 * sum + text.at(from + i);
            }
            return sum & (BUCKETS - 1);
        }

        private boolean isSpelt(int name, Bytes text, int from, int length) {
            if (lengthOf(name) != length) {
                return false;
            }
            for (int i = 0; i < length; i++) {
                if (byteOf(name, i) != text.at(from + i)) {
                    return false;
                }
            }
            return true;
        }

        private int addName(Bytes text, int from, int length, int bucket) {
            int start = starts[count];
            if (count >= MOST_NAMES || length > MOST_SPELLING - start) {
                return NONE;
            }
            for (int i = 0; i < length; i++) {
                spelling[start + i] = (byte) text.at(from + i);
            }
            older[count] = newest[bucket];
            count++;
            starts[count] = start + length;
            newest[bucket] = count;
            return count - 1;
        }
    }

    /** The tokens of a text, up to its end or to the first place where there is none, and the next one. */
    private static final class Tokens {
        private final int[] kinds;
        private final int[] places;

        /** Of a name its length, of a sort its value. */
        private final int[] values;
        private int count;
        private int next;

        Tokens() {
            kinds = new int[MOST_TOKENS];
            places = new int[MOST_TOKENS];
            values = new int[MOST_TOKENS];
            count = 0;
            next = 0;
        }

        int nextKind() {
            return next < count ? kinds[next] : Token.BAD;
        }

        int nextPlace() {
            return next < count ? places[next] : NONE;
        }

        int nextValue() {
            return next < count ? values[next] : 0;
        }

        void advance() {
            if (next < count) {
                next++;
            }
        }

        void scan(Bytes text, int end) {
            count = 0;
            next = 0;
            int at = 0;
            boolean more = true;
            for (int i = 0; i < MOST_TOKENS && more; i++) {
                at = behindBlanks(text, at, end);
                int here = at < end ? text.at(at) : NONE;
                at = isLetter(here) ? scanWord(text, at, end) : scanSign(text, at, end);
                more = kinds[i] != Token.END && kinds[i] != Token.BAD;
            }
        }

        /** Where the blanks end that begin at a place; a remark without an end is no blank. */
        private static int behindBlanks(Bytes text, int from, int end) {
            int at = from;
            for (int blanks = 0; blanks < MOST_BYTES && at < end; blanks++) {
                int behind = behindBlank(text, at, end);
                if (behind == at) {
                    return at;
                }
                at = behind;
            }
            return at;
        }

        private static int behindBlank(Bytes text, int at, int end) {
            int here = text.at(at);
            if (here == ' ' || here == '\t' || here == '\n' || here == '\r') {
                return at + 1;
            }
            boolean minusFollows = at + 1 < end && text.at(at + 1) == '-';
            if (here == '-' && minusFollows) {
                return behindLine(text, at, end);
            }
            return here == '{' && minusFollows ? behindRemark(text, at, end) : at;
        }

        private static int behindLine(Bytes text, int from, int end) {
            int at = from;
            while (at < end && text.at(at) != '\n') {
                at++;
            }
            return at;
        }

        /** Where the remark ends that begins at a place; that place if it does not end. */
        private static int behindRemark(Bytes text, int from, int end) {
            int open = 0;
            int at = from;
            while (at + 1 < end) {
                int here = text.at(at);
                int behind = text.at(at + 1);
                boolean opens = here == '{' && behind == '-';
                boolean closes = here == '-' && behind == '}';
                open += opens ? 1 : closes ? -1 : 0;
                at += opens || closes ? 2 : 1;
                if (open == 0) {
                    return at;
                }
            }
            return from;
        }

        /** Adds the sign at a place, or the end, and answers where it ends. */
        private int scanSign(Bytes text, int at, int end) {
            if (at >= end) {
                return addToken(Token.END, end, 0, 0);
            }
            int sign = Token.signOf(text.at(at), at + 1 < end ? text.at(at + 1) : NONE);
            return addToken(sign, at, 0, Token.spelling(sign).length());
        }

        /** Adds the word or name at a place, and answers where it ends. */
        private int scanWord(Bytes text, int at, int end) {
            int behind = at + 1;
            while (behind < end && isInName(text.at(behind))) {
                behind++;
            }
            int length = behind - at;
            if (length > LONGEST_NAME) {
                return addToken(Token.BAD, at, 0, length);
            }
            int sort = sortAt(text, at, length);
            if (sort != NONE) {
                return addToken(Token.SORT, at, sort, length);
            }
            return addToken(wordAt(text, at, length), at, length, length);
        }

        private int addToken(int kind, int place, int value, int length) {
            if (count < MOST_TOKENS) {
                kinds[count] = kind;
                places[count] = place;
                values[count] = value;
                count++;
            }
            return place + length;
        }

        /** The word's token, or that of a name. */
        private static int wordAt(Bytes text, int at, int length) {
            // Most names are a letter alone or long, and are no word for that.
            if (length < 2 || length > 5) {
                return Token.NAME;
            }
            for (int word = Token.FIRST_WORD; word <= Token.LAST_WORD; word++) {
                if (isWord(text, at, length, Token.spelling(word))) {
                    return word;
                }
            }
            return Token.NAME;
        }

        private static int sortAt(Bytes text, int at, int length) {
            if (isWord(text, at, length, "Prop")) {
                return 0;
            }
            if (length < 4 || length > 6 || !isWord(text, at, 4, "Type")) {
                return NONE;
            }
            if (length == 4) {
                return 1;
            }
            int high = digitAt(text, at + 4);
            if (length == 5) {
                return high == NONE ? NONE : 1 + high;
            }
            int low = digitAt(text, at + 5);
            return high <= 0 || low == NONE ? NONE : 1 + 10 * high + low;
        }

        private static boolean isWord(Bytes text, int at, int length, String word) {
            if (word.length() != length) {
                return false;
            }
            for (int i = 0; i < length; i++) {
                if (text.at(at + i) != word.charAt(i)) {
                    return false;
                }
            }
            return true;
        }

        private static int digitAt(Bytes text, int at) {
            int here = text.at(at);
            return isDigit(here) ? here - '0' : NONE;
        }

        private static boolean isDigit(int value) {
            return value >= '0' && value <= '9';
        }

        private static boolean isLetter(int value) {
            return value >= 'a' && value <= 'z' || value >= 'A' && value <= 'Z' || value == '_';
        }

        private static boolean isInName(int value) {
            return isLetter(value) || isDigit(value) || value == '\'';
        }
    }

    /** A tree: its nodes, each one before its parts. */
    private static final class Tree {
        static final int PARTS = 4;

        private final int[] kinds;
        private final int[] places;
        private final int[] values;
        private final int[] sizes;
        private final int[] partCounts;
        private final int[] wholes;
        int count;

        Tree() {
            kinds = new int[MOST_NODES];
            places = new int[MOST_NODES];
            values = new int[MOST_NODES];
            sizes = new int[MOST_NODES];
            partCounts = new int[MOST_NODES];
            wholes = new int[MOST_NODES];
            kinds[0] = Kind.TEXT;
            places[0] = NONE;
            sizes[0] = 1;
            wholes[0] = NONE;
            count = 1;
        }

        boolean has(int k) {
            return k >= 0 && k < count;
        }

        /** Makes room for so many nodes, which are all still to be put. */
        void makeRoom(int nodes) {
            count = Math.min(nodes, MOST_NODES);
        }

        void put(int k, int kind, int place, int value, int size, int parts) {
            if (has(k)) {
                kinds[k] = kind;
                places[k] = place;
                values[k] = value;
                sizes[k] = size;
                partCounts[k] = parts;
            }
        }

        void putWhole(int k, int whole) {
            if (has(k)) {
                wholes[k] = whole;
            }
        }

        int kindOf(int k) {
            return has(k) ? kinds[k] : NONE;
        }

        int sizeOf(int k) {
            return has(k) ? sizes[k] : NONE;
        }

        int wholeOf(int k) {
            return has(k) ? wholes[k] : NONE;
        }

        int tell(int k, int what) {
            if (!has(k)) {
                return NONE;
            }
            switch (what) {
                case 0: return kinds[k];
                case 1: return places[k];
                case 2: return values[k];
                case 3: return sizes[k];
                case PARTS: return partCounts[k];
                default: return NONE;
            }
        }

        int partOf(int k, int i) {
            if (!has(k) || i < 0 || i >= partCounts[k]) {
                return NONE;
            }
            int part = k + 1;
            for (int passed = 0; passed < i && has(part); passed++) {
                part += sizes[part];
            }
            return part;
        }

        boolean isFirstPart(int k) {
            return has(k) && wholes[k] == k - 1;
        }

        boolean isLastPart(int k) {
            int whole = wholeOf(k);
            return has(whole) && k + sizes[k] == whole + sizes[whole];
        }

        /** Gives the names their numbers, which have had their lengths as values till then. */
        void numberNames(Names names, Bytes text) {
            for (int k = 0; k < count; k++) {
                if (kinds[k] == Kind.BINDER || kinds[k] == Kind.NAME) {
                    values[k] = names.numberOf(text, places[k], values[k]);
                }
            }
        }

        boolean equalsButForPlaces(Tree other) {
            if (count != other.count) {
                return false;
            }
            for (int k = 0; k < count; k++) {
                if (kinds[k] != other.kinds[k] || values[k] != other.values[k]
                        || sizes[k] != other.sizes[k]) {
                    return false;
                }
            }
            return true;
        }
    }

    /** A tree that grows: its nodes, each one behind its parts, as that is how they become whole. */
    private static final class Growth {
        private final int[] kinds;
        private final int[] places;
        private final int[] values;
        private final int[] sizes;
        private final int[] partCounts;

        /** The number that a node gets when each one stands before its parts. */
        private final int[] numbers;
        int count;

        Growth() {
            kinds = new int[MOST_NODES];
            places = new int[MOST_NODES];
            values = new int[MOST_NODES];
            sizes = new int[MOST_NODES];
            partCounts = new int[MOST_NODES];
            numbers = new int[MOST_NODES];
            count = 0;
        }

        void cutTo(int kept) {
            if (kept >= 0 && kept < count) {
                count = kept;
            }
        }

        /** Adds a node whose parts are all nodes from one on; false if there is no room. */
        boolean add(int kind, int place, int value, int from) {
            if (count >= MOST_NODES || from < 0 || from > count) {
                return false;
            }
            int parts = 0;
            for (int part = count - 1; part >= from; part -= Math.max(1, sizes[part])) {
                parts++;
            }
            kinds[count] = kind;
            places[count] = place;
            values[count] = value;
            sizes[count] = count - from + 1;
            partCounts[count] = parts;
            count++;
            return true;
        }

        /** Makes one node of the last two. */
        boolean join(int kind) {
            int right = count - 1;
            int left = right < 0 ? NONE : right - sizes[right];
            return left >= 0 && add(kind, places[left], 0, left - sizes[left] + 1);
        }

        /** Copies all that is in the last node to a tree. */
        void layOut(Tree tree) {
            if (count == 0) {
                return;
            }
            tree.makeRoom(count);
            numbers[count - 1] = 0;
            for (int from = count - 1; from >= 0; from--) {
                tree.put(numbers[from], kinds[from], places[from], values[from], sizes[from], partCounts[from]);
                numberParts(from, tree);
            }
        }

        private void numberParts(int from, Tree tree) {
            int part = from - 1;
            int behind = numbers[from] + sizes[from];
            for (int left = partCounts[from]; left > 0 && part >= 0; left--) {
                behind -= sizes[part];
                numbers[part] = behind;
                tree.putWhole(behind, numbers[from]);
                part -= sizes[part];
            }
        }
    }

    /** Reads the tokens of a text by the grammar's rules, one token ahead, and grows its tree. */
    private static final class Parser {
        // What waits longest is what ends a term, and for that each -> leaves one rule, of three
        // bytes at least; all others wait for brackets and the like, a few for each of 100 levels.
        private static final int MOST_WAITING = 4096;

        // Each all, of eight bytes at least, leaves one node begun; brackets and groups at most
        // two for each of 100 levels.
        private static final int MOST_BEGUN = 2048;

        // Far above what 8000 bytes can need, which is fewer than ten rules for each token.
        private static final int MOST_RULES = 1000000;

        private final Tokens tokens;
        final Growth growth;
        private final int[] waiting;
        private int waitingCount;
        private final int[] begunPlaces;
        private final int[] begunFrom;
        private int begunCount;
        private int depth;

        Parser() {
            tokens = new Tokens();
            growth = new Growth();
            waiting = new int[MOST_WAITING];
            begunPlaces = new int[MOST_BEGUN];
            begunFrom = new int[MOST_BEGUN];
            waitingCount = 0;
            begunCount = 0;
            depth = 0;
        }

        /** Grows the tree of the declarations before the fault, and answers the fault's place. */
        int parse(Bytes text, int end) {
            tokens.scan(text, end);
            growth.cutTo(0);
            int fault = NONE;
            for (int i = 0; i < MOST_TOKENS && fault == NONE && tokens.nextKind() != Token.END; i++) {
                int kept = growth.count;
                if (!takeDeclaration()) {
                    fault = tokens.nextPlace();
                    growth.cutTo(kept);
                }
            }
            growth.add(Kind.TEXT, NONE, 0, 0);
            return fault;
        }

        /** Whether there is a declaration; if not, the next token is the one that does not fit. */
        private boolean takeDeclaration() {
            waitingCount = 0;
            begunCount = 0;
            depth = 0;
            boolean fits = expandDeclaration();
            for (int i = 0; i < MOST_RULES && fits && waitingCount > 0; i++) {
                waitingCount--;
                fits = take(waiting[waitingCount]);
            }
            return fits && waitingCount == 0;
        }

        private boolean take(int rule) {
            if (rule >= Rule.FINISH) {
                return finish(rule - Rule.FINISH);
            }
            if (rule < Rule.FIRST_RULE) {
                return takeToken(rule);
            }
            switch (rule) {
                case Rule.GROUPS: return isNot(Token.OPEN) || await(Rule.GROUPS_ROW);
                case Rule.GROUP: return begin(Rule.GROUP_ROW);
                case Rule.BINDERS: return expandBinders();
                case Rule.BINDER: return takeLeaf(Token.NAME, Kind.BINDER);
                case Rule.MORE_BINDERS: return isNot(Token.NAME) || await(Rule.MORE_BINDERS_ROW);
                case Rule.CONSTRUCTORS: return isNot(Token.BAR) || begin(Rule.CONSTRUCTORS_ROW);
                case Rule.TYPE_OR_NOTHING: return expandTypeOrNothing();
                case Rule.TERM: return expandTerm();
                case Rule.DEEPER_TERM: return goDeeper();
                case Rule.RISE: return rise();
                case Rule.ATOM: return expandAtom();
                case Rule.MORE_ATOMS: return expandMoreAtoms();
                case Rule.JOIN_ATOMS: return growth.join(Kind.APPLICATION);
                case Rule.JOIN_ARROW: return growth.join(Kind.ARROW);
                case Rule.NAME: return takeLeaf(Token.NAME, Kind.NAME);
                case Rule.SORT: return takeLeaf(Token.SORT, Kind.SORT);
                case Rule.BRACKET_ENDS: return expandBracketEnd();
                default: return false;
            }
        }

        private boolean expandDeclaration() {
            switch (tokens.nextKind()) {
                case Token.AXIOM: return begin(Rule.AXIOM_ROW);
                case Token.DEF: return begin(Rule.DEF_ROW);
                case Token.LEMMA: return begin(Rule.LEMMA_ROW);
                case Token.DATA: return begin(Rule.DATA_ROW);
                case Token.CHECK: return begin(Rule.CHECK_ROW);
                case Token.NORM: return begin(Rule.NORM_ROW);
                default: return false;
            }
        }

        private boolean expandBinders() {
            return isNot(Token.NAME) ? await(Rule.GROUPS_ROW) : begin(Rule.BARE_GROUP_ROW);
        }

        private boolean expandTypeOrNothing() {
            if (isNot(Token.COLON)) {
                return growth.add(Kind.NOTHING, NONE, 0, growth.count);
            }
            return await(Rule.TYPE_ROW);
        }

        private boolean expandTerm() {
            switch (tokens.nextKind()) {
                case Token.FUN: return begin(Rule.FUN_ROW);
                case Token.ALL: return begin(Rule.ALL_ROW);
                case Token.LET: return begin(Rule.LET_ROW);
                default: return await(Rule.ATOMS_ROW);
            }
        }

        private boolean expandAtom() {
            switch (tokens.nextKind()) {
                case Token.NAME: return takeLeaf(Token.NAME, Kind.NAME);
                case Token.SORT: return takeLeaf(Token.SORT, Kind.SORT);
                case Token.REC: return begin(Rule.REC_ROW);
                case Token.OPEN: return begin(Rule.BRACKET_ROW);
                default: return false;
            }
        }

        private boolean expandMoreAtoms() {
            int token = tokens.nextKind();
            if (token == Token.ARROW) {
                return await(Rule.ARROW_ROW);
            }
            return !Token.beginsAtom(token) || await(Rule.MORE_ATOMS_ROW);
        }

        private boolean expandBracketEnd() {
            if (isNot(Token.COLON)) {
                // Brackets around a term alone are no node: what was begun with them is forgotten.
                begunCount--;
                return await(Rule.CLOSE_ROW);
            }
            return await(Rule.TYPED_ROW);
        }

        private boolean goDeeper() {
            if (depth >= DEEPEST_TERM) {
                return false;
            }
            depth++;
            return await(Rule.DEEPER_TERM_ROW);
        }

        private boolean rise() {
            depth--;
            return true;
        }

        private boolean isNot(int token) {
            return tokens.nextKind() != token;
        }

        private boolean takeToken(int token) {
            if (isNot(token)) {
                return false;
            }
            tokens.advance();
            return true;
        }

        private boolean takeLeaf(int token, int kind) {
            if (isNot(token)
                    || !growth.add(kind, tokens.nextPlace(), tokens.nextValue(), growth.count)) {
                return false;
            }
            tokens.advance();
            return true;
        }

        /** Begins a node at the next token, and waits for what belongs to it. */
        private boolean begin(int[] row) {
            if (begunCount < 0 || begunCount >= MOST_BEGUN) {
                return false;
            }
            begunPlaces[begunCount] = tokens.nextPlace();
            begunFrom[begunCount] = growth.count;
            begunCount++;
            return await(row);
        }

        private boolean finish(int kind) {
            if (begunCount <= 0) {
                return false;
            }
            begunCount--;
            return growth.add(kind, begunPlaces[begunCount], 0, begunFrom[begunCount]);
        }

        private boolean await(int[] row) {
            if (row.length > MOST_WAITING - waitingCount) {
                return false;
            }
            for (int i = row.length - 1; i >= 0; i--) {
                waiting[waitingCount] = row[i];
                waitingCount++;
            }
            return true;
        }
    }

    /** Writes nodes as texts. */
    private static final class Writer {
        /** What was written last. */
        Bytes shown;

        /** What is being written, which may still become too long. */
        private Bytes draft;

        Writer() {
            shown = new Bytes();
            draft = new Bytes();
        }

        /** Writes a node, and answers how many bytes that are; NONE if there are too many. */
        int show(Tree tree, Names names, int top) {
            draft.clear();
            walk(tree, names, top);
            if (draft.overrun) {
                return NONE;
            }
            Bytes before = shown;
            shown = draft;
            draft = before;
            return shown.length;
        }

        /** Goes through a node and all that is in it: each is entered once, and left once. */
        private void walk(Tree tree, Names names, int top) {
            int at = top;
            boolean down = true;
            for (int steps = 2 * tree.sizeOf(top); steps > 0 && !draft.overrun; steps--) {
                boolean alone = at == top;
                if (down) {
                    enter(tree, names, at, alone);
                    down = tree.sizeOf(at) > 1;
                    at = down ? at + 1 : at;
                } else {
                    leave(tree, at, alone);
                    down = !alone && !tree.isLastPart(at);
                    at = down ? at + tree.sizeOf(at) : tree.wholeOf(at);
                }
            }
        }

        private void enter(Tree tree, Names names, int at, boolean alone) {
            if (!alone) {
                putToken(tokenBefore(tree, at));
            }
            if (hasBrackets(tree, at, alone)) {
                putToken(Token.OPEN);
            }
            int kind = tree.kindOf(at);
            if (kind == Kind.BINDER || kind == Kind.NAME) {
                putName(names, tree.tell(at, 2));
            } else if (kind == Kind.SORT) {
                putSort(tree.tell(at, 2));
            } else {
                putToken(firstWord(kind));
            }
        }

        private void leave(Tree tree, int at, boolean alone) {
            if (hasBrackets(tree, at, alone)) {
                putToken(Token.CLOSE);
            }
            if (isDeclaration(tree.kindOf(at))) {
                putToken(Token.STOP);
                if (!alone) {
                    draft.put('\n');
                }
            }
        }

        private static boolean isDeclaration(int kind) {
            return kind >= Kind.AXIOM && kind <= Kind.NORM && kind != Kind.CONSTRUCTOR;
        }

        private static int firstWord(int kind) {
            switch (kind) {
                case Kind.AXIOM: return Token.AXIOM;
                case Kind.DEF: return Token.DEF;
                case Kind.LEMMA: return Token.LEMMA;
                case Kind.DATA: return Token.DATA;
                case Kind.CHECK: return Token.CHECK;
                case Kind.NORM: return Token.NORM;
                case Kind.FUN: return Token.FUN;
                case Kind.ALL: return Token.ALL;
                case Kind.LET: return Token.LET;
                case Kind.REC: return Token.REC;
                default: return Token.END;
            }
        }

        /** The token that stands in a whole before one of its parts; END if there is none. */
        private static int tokenBefore(Tree tree, int part) {
            int kind = tree.kindOf(part);
            if (kind == Kind.BINDER || kind == Kind.GROUP || kind == Kind.NOTHING
                    || tree.isFirstPart(part)) {
                return Token.END;
            }
            boolean last = tree.isLastPart(part);
            switch (tree.kindOf(tree.wholeOf(part))) {
                case Kind.AXIOM:
                case Kind.CONSTRUCTOR:
                case Kind.CHECK:
                case Kind.GROUP:
                case Kind.TYPED: return Token.COLON;
                case Kind.DEF:
                case Kind.LEMMA: return last ? Token.ASSIGN : Token.COLON;
                case Kind.DATA: return kind == Kind.CONSTRUCTOR ? Token.BAR : Token.COLON;
                case Kind.FUN: return Token.YIELDS;
                case Kind.ALL: return Token.COMMA;
                case Kind.LET: return last ? Token.IN : tokenInLet(tree, part);
                case Kind.ARROW: return Token.ARROW;
                default: return Token.END;
            }
        }

        private static int tokenInLet(Tree tree, int part) {
            // The type stands right behind the let and its binder.
            return part == tree.wholeOf(part) + 2 ? Token.COLON : Token.ASSIGN;
        }

        private static boolean hasBrackets(Tree tree, int at, boolean alone) {
            int kind = tree.kindOf(at);
            if (kind == Kind.TYPED) {
                return true;
            }
            int whole = tree.wholeOf(at);
            int wholeKind = tree.kindOf(whole);
            if (kind == Kind.GROUP) {
                boolean behindFunOrAll = wholeKind == Kind.FUN || wholeKind == Kind.ALL;
                return alone || !behindFunOrAll || tree.tell(whole, Tree.PARTS) > 2;
            }
            if (alone || wholeKind != Kind.ARROW && wholeKind != Kind.APPLICATION) {
                return false;
            }
            if (tree.isFirstPart(at)) {
                return Kind.isOpenToTheRight(kind);
            }
            return wholeKind == Kind.APPLICATION
                    && (Kind.isOpenToTheRight(kind) || kind == Kind.APPLICATION);
        }

        private void putToken(int token) {
            if (token == Token.END) {
                return;
            }
            if (token != Token.CLOSE && token != Token.COLON && token != Token.COMMA
                    && token != Token.STOP) {
                putBlank();
            }
            putText(Token.spelling(token));
        }

        private void putName(Names names, int name) {
            putBlank();
            int length = names.lengthOf(name);
            for (int i = 0; i < length; i++) {
                draft.put(names.byteOf(name, i));
            }
        }

        private void putSort(int value) {
            putBlank();
            putText(value <= 0 ? "Prop" : "Type");
            int number = value - 1;
            if (number >= 10) {
                draft.put('0' + number / 10);
            }
            if (number >= 0) {
                draft.put('0' + number % 10);
            }
        }

        /** Puts the blank that parts the next token from the last one, where one is due. */
        private void putBlank() {
            int last = draft.at(draft.length - 1);
            if (last != NONE && last != '(' && last != '\n') {
                draft.put(' ');
            }
        }

        private void putText(String text) {
            for (int i = 0; i < text.length(); i++) {
                draft.put(text.charAt(i));
            }
        }
    }
}
