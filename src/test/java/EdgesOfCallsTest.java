/**
 * The edges of the calls, one method for each sentence of promises 1 to 14 that names some, and for
 * the one that tells how many calls there are: the last that it lets through, and the first beyond.
 */
public final class EdgesOfCallsTest {
    private static final Checks CHECKS = new Checks();
    private static final int LOW = Integer.MIN_VALUE;
    private static final int HIGH = Integer.MAX_VALUE;
    private static final int[] NO_TREES = {LOW, -2, -1, 2, 3, HIGH};
    private static final String LETTERS = "abcdefghijklmnopqrstuvwxyzABCDEFGHIJKLMNOPQRSTUVWXYZ_";
    private static final String IN_NAMES = LETTERS + "0123456789'";

    public static void main(String[] args) {
        lastCall();
        mostNamesOfAllCalls();
        longestNamesOfAllCalls();
        newObject();
        feedAddsTwenty();
        feedHighestByteFirst();
        feedBeyond8000();
        feedRefusedChangesNothing();
        readFirstBytes();
        readTakesAllBytes();
        readLeavesTheOtherTree();
        readCountsWhatEndsBeforeTheFault();
        readWithoutATree();
        readBeyondTheBytes();
        readRefusedChangesNothing();
        faultOfTheLastText();
        faultWithoutAny();
        nodesOfATree();
        nodeOfATree();
        nodeAsked();
        partOfANode();
        wholeOfANode();
        names();
        speltByte();
        writeNothing();
        writeWithoutANode();
        writeBeyond8000();
        writtenByte();
        againAtFirst();
        againInPlaceOfAllBytes();
        sameButForPlaces();
        CHECKS.end();
    }

    private static void lastCall() {
        CHECKS.about("An object is used for at most 512 calls after it has been made");
        TermReader reader = new TermReader();
        for (int i = 0; i < 126; i++) {
            String name = "" + LETTERS.charAt(i % 53) + LETTERS.charAt(i / 53);
            CHECKS.due("call " + (4 * i + 1), Checks.feed(reader, "norm " + name + ". ."), 20);
            CHECKS.due("call " + (4 * i + 2), reader.read(i & 1, 10), 1);
            CHECKS.due("call " + (4 * i + 3), reader.fault(), 9);
            CHECKS.due("call " + (4 * i + 4), reader.names(), i + 1);
        }
        CHECKS.due("call 505", reader.same(), false);
        CHECKS.due("call 506", reader.write(0, 0), 9);
        CHECKS.due("call 507", reader.again(), 9);
        CHECKS.due("call 508", reader.read(1, 9), 1);
        CHECKS.due("call 509", reader.fault(), -1);
        CHECKS.due("call 510", reader.node(1, 2, 2), 124);
        CHECKS.due("call 511", reader.spelt(125, 1), (int) LETTERS.charAt(2));
        CHECKS.due("call 512", reader.same(), true);
        reader.feed(1, 2, 3, 4, 5);
        reader.read(0, 20);
    }

    /** 508 feeds, two reads and two questions, which leave no room for more names. */
    private static void mostNamesOfAllCalls() {
        CHECKS.about("An object is used for at most 512 calls after it has been made");
        TermReader reader = new TermReader();
        int known = 0;
        int knownBefore = 0;
        int next = 0;
        for (int text = 0; text < 2; text++) {
            knownBefore = known;
            StringBuilder names = new StringBuilder("norm");
            while (names.length() < 5080 - 3) {
                String name = next < 53 ? LETTERS.substring(next, next + 1)
                        : "" + LETTERS.charAt(next % 53) + IN_NAMES.charAt(next / 53 - 1);
                next++;
                if (!name.equals("in")) {
                    names.append(' ').append(name);
                    known++;
                }
            }
            CHECKS.due("feed 254 times", Checks.feed(reader, names.append('.').toString()), 5080);
            CHECKS.due("read them", reader.read(0, names.length()), 1);
        }
        CHECKS.due("call 511", reader.names(), known);
        CHECKS.due("call 512", reader.node(0, 2 * (known - knownBefore), 2), known - 1);
    }

    private static void longestNamesOfAllCalls() {
        CHECKS.about("An object is used for at most 512 calls after it has been made");
        TermReader reader = new TermReader();
        int known = 0;
        for (int feeds : new int[] {400, 108}) {
            StringBuilder names = new StringBuilder("norm");
            while (names.length() + 42 <= 20 * feeds) {
                names.append(' ').append("x".repeat(37)).append(100 + known);
                known++;
            }
            names.append(" ".repeat(20 * feeds - names.length() - 1)).append('.');
            CHECKS.due("feed " + feeds + " times", Checks.feed(reader, names.toString()), 20 * feeds);
            CHECKS.due("read them", reader.read(0, 20 * feeds), 1);
        }
        CHECKS.due("call 511", reader.spelt(known - 1, 39), '0' + (known - 1) % 10);
        CHECKS.due("call 512", reader.spelt(known - 1, 40), -1);
    }

    private static void newObject() {
        CHECKS.about("No bytes, no names; both trees are empty texts; nothing was written, no fault.");
        CHECKS.due("state", Checks.state(new TermReader()), "-1; ; 0@-1=0; 0@-1=0; ; true");
        CHECKS.due("read(0, 0)", new TermReader().read(0, 0), 0);
        CHECKS.due("read(0, 1)", new TermReader().read(0, 1), -1);
        CHECKS.due("names", new TermReader().names(), 0);
        CHECKS.due("spelt(0, 0)", new TermReader().spelt(0, 0), -1);
        int[] emptyText = {0, -1, 0, 1, 0};
        for (int tree = 0; tree <= 1; tree++) {
            TermReader reader = new TermReader();
            CHECKS.due("nodes(" + tree + ")", reader.nodes(tree), 1);
            for (int what = 0; what < 5; what++) {
                CHECKS.due("node(" + tree + ", 0, " + what + ")", reader.node(tree, 0, what), emptyText[what]);
            }
            CHECKS.due("node(" + tree + ", 1, 0)", reader.node(tree, 1, 0), -1);
            CHECKS.due("part(" + tree + ", 0, 0)", reader.part(tree, 0, 0), -1);
            CHECKS.due("whole(" + tree + ", 0)", reader.whole(tree, 0), -1);
            CHECKS.due("write(" + tree + ", 0)", reader.write(tree, 0), 0);
        }
        CHECKS.due("written(0)", new TermReader().written(0), -1);
        CHECKS.due("fault", new TermReader().fault(), -1);
        CHECKS.due("feed", new TermReader().feed(0, 0, 0, 0, 0), 20);
    }

    private static void feedAddsTwenty() {
        CHECKS.about("Twenty bytes more, ..: how many there are.");
        TermReader reader = new TermReader();
        for (int there = 20; there <= 8000; there += 20) {
            CHECKS.due("feed", reader.feed(0x20202020, 0x20202020, 0x20202020, 0x20202020, 0x20202020), there);
        }
        CHECKS.due("read all of them", reader.read(0, 8000), 0);
        CHECKS.due("all are blanks", reader.fault(), -1);
        reader = Checks.withBytes(7);
        CHECKS.due("feed behind 7", reader.feed(0, 0, 0, 0, 0), 27);
        CHECKS.due("feed behind 27", reader.feed(0, 0, 0, 0, 0), 47);
    }

    private static void feedHighestByteFirst() {
        CHECKS.about("the highest byte of a first");
        for (int place = 0; place < 20; place++) {
            for (int odd : new int[] {0, 127, 128, 255}) {
                int[] words = new int[5];
                for (int i = 0; i < 20; i++) {
                    words[i / 4] = words[i / 4] << 8 | (i == place ? odd : 32);
                }
                TermReader reader = new TermReader();
                reader.feed(words[0], words[1], words[2], words[3], words[4]);
                reader.read(0, 20);
                CHECKS.due("fault of " + odd + " at " + place, reader.fault(), place);
            }
        }
        TermReader reader = new TermReader();
        reader.feed(0x6e6f726d, 0x20616263, 0x64656667, 0x68696a6b, 0x6c6d6e2e);
        reader.read(0, 20);
        CHECKS.due("names", Checks.allNames(reader), "abcdefghijklmn");
    }

    private static void feedBeyond8000() {
        CHECKS.about("NONE, changing nothing, when there would be more than 8000.");
        CHECKS.due("feed behind 7979", Checks.withBytes(7979).feed(0, 0, 0, 0, 0), 7999);
        CHECKS.due("feed behind 7980", Checks.withBytes(7980).feed(0, 0, 0, 0, 0), 8000);
        CHECKS.due("feed behind 7981", Checks.withBytes(7981).feed(0, 0, 0, 0, 0), -1);
        CHECKS.due("feed behind 7999", Checks.withBytes(7999).feed(0, 0, 0, 0, 0), -1);
        CHECKS.due("feed behind 8000", Checks.withBytes(8000).feed(0, 0, 0, 0, 0), -1);
    }

    private static void feedRefusedChangesNothing() {
        CHECKS.about("NONE, changing nothing, when there would be more than 8000.");
        for (int bytes = 7981; bytes <= 8000; bytes++) {
            TermReader reader = Checks.withBytes(bytes);
            for (int i = 0; i < 3; i++) {
                CHECKS.due("feed behind " + bytes, reader.feed(0, 0, 0, 0, 0), -1);
            }
            CHECKS.due("read one more than " + bytes, reader.read(1, bytes + 1), -1);
            CHECKS.due("read " + bytes, reader.read(1, bytes), 0);
        }
        String text = "norm " + "a->".repeat(2662) + "bcde. )";
        TermReader reader = new TermReader();
        CHECKS.due("feed 7998 bytes", Checks.feed(reader, text), 8000);
        CHECKS.due("feed 20 more", reader.feed(-1, -1, -1, -1, -1), -1);
        CHECKS.due("read them", reader.read(0, 7998), 1);
        CHECKS.due("the last one is the fault", reader.fault(), 7997);
        CHECKS.due("the names", Checks.allNames(reader), "a bcde");
        CHECKS.due("feed again", reader.feed(0, 0, 0, 0, 0), 20);
        reader = Checks.readerOf("norm a b. #");
        Checks.read(reader, 1, "check c: d. axiom )");
        reader.write(0, 1);
        for (int i = 0; i < 400; i++) {
            reader.feed(0, 0, 0, 0, 0);
        }
        String before = Checks.state(reader);
        CHECKS.due("feed behind 8000", reader.feed(0x6e6f726d, 0x20617a7a, 0x2e202020, 0, 0), -1);
        CHECKS.due("state", Checks.state(reader), before);
    }

    private static void readFirstBytes() {
        CHECKS.about("The first n bytes are read as a text");
        int[] declarations = {0, 0, 0, 0, 0, 0, 0, 1, 1, 1};
        int[] faults = {-1, 0, 0, 0, 4, 5, 6, -1, -1, 8};
        for (int n = 0; n < declarations.length; n++) {
            TermReader reader = new TermReader();
            Checks.feed(reader, "norm a. #");
            CHECKS.due("read(0, " + n + ")", reader.read(0, n), declarations[n]);
            CHECKS.due("fault of the first " + n, reader.fault(), faults[n]);
        }
        String[] signs = {"def a: b :=", "norm fun a: b =>", "norm a ->"};
        int[] cutFaults = {9, 14, 7};
        for (int i = 0; i < signs.length; i++) {
            TermReader reader = new TermReader();
            Checks.feed(reader, signs[i]);
            reader.read(0, signs[i].length());
            CHECKS.due("fault of " + signs[i], reader.fault(), signs[i].length());
            Checks.feed(reader, signs[i]);
            reader.read(0, signs[i].length() - 1);
            CHECKS.due("fault of all but one byte of " + signs[i], reader.fault(), cutFaults[i]);
        }
        TermReader reader = new TermReader();
        Checks.feed(reader, "norm ab. norm cd'. ");
        CHECKS.due("read(0, 7)", reader.read(0, 7), 0);
        CHECKS.due("names of no declaration", reader.names(), 0);
        CHECKS.due("8000 bytes", Checks.read(reader, 0, "norm " + "a ".repeat(3997) + "."), 1);
        CHECKS.due("fault of 8000 bytes", reader.fault(), -1);
    }

    private static void readTakesAllBytes() {
        CHECKS.about("and all bytes are gone");
        for (int n : new int[] {0, 1, 19, 20}) {
            TermReader reader = new TermReader();
            Checks.feed(reader, "norm a. norm b. ####");
            reader.read(0, n);
            CHECKS.due("read one behind read(0, " + n + ")", reader.read(0, 1), -1);
            CHECKS.due("read none behind it", reader.read(0, 0), 0);
            CHECKS.due("feed behind it", Checks.feed(reader, "norm c."), 20);
            CHECKS.due("read what was fed", reader.read(0, 7), 1);
            CHECKS.due("the tree", Checks.rewrittenTree(reader, 0), "norm c.\n");
        }
        TermReader reader = Checks.withBytes(8000);
        reader.read(0, 0);
        CHECKS.due("feed behind 8000 that are gone", reader.feed(0, 0, 0, 0, 0), 20);
    }

    private static void readLeavesTheOtherTree() {
        CHECKS.about("tree 0 or 1 (the other stays)");
        for (int tree = 0; tree <= 1; tree++) {
            TermReader reader = new TermReader();
            Checks.read(reader, 1 - tree, "norm a b. check c.");
            String other = Checks.shape(reader, 1 - tree, 0);
            CHECKS.due("read(" + tree + ", ..)", Checks.read(reader, tree, "norm x y z. axiom w: v."), 2);
            CHECKS.due("nodes of it", reader.nodes(tree), 10);
            CHECKS.due("the other one", Checks.shape(reader, 1 - tree, 0), other);
            CHECKS.due("read none", reader.read(tree, 0), 0);
            CHECKS.due("nodes of none", reader.nodes(tree), 1);
            CHECKS.due("the other one", Checks.shape(reader, 1 - tree, 0), other);
        }
    }

    private static void readCountsWhatEndsBeforeTheFault() {
        CHECKS.about("has the declarations then that end before the fault: how many.");
        CHECKS.reads("", 0, -1);
        CHECKS.reads("norm a", 0, 6);
        CHECKS.reads("norm a.", 1, -1);
        CHECKS.reads("norm a.)", 1, 7);
        CHECKS.reads("norm a).", 0, 6);
        CHECKS.reads("norm a. norm b.", 2, -1);
        CHECKS.reads("norm a. norm b", 1, 14);
        CHECKS.reads("norm a. ) norm b.", 1, 8);
        CHECKS.reads(") norm a. norm b.", 0, 0);
        CHECKS.reads("norm a. norm b. {-", 2, 16);
        CHECKS.reads("norm a.".repeat(1142), 1142, -1);
        CHECKS.reads("norm a.".repeat(1142) + "norm a", 1142, 8000);
        TermReader reader = Checks.readerOf("norm a. norm b. norm c )");
        CHECKS.due("tree", Checks.rewrittenTree(reader, 0), "norm a.\nnorm b.\n");
    }

    private static void readWithoutATree() {
        CHECKS.about("NONE, changing nothing, when there is no such tree");
        for (int tree : NO_TREES) {
            TermReader reader = new TermReader();
            Checks.feed(reader, "norm abcdef ghijkl.");
            CHECKS.due("read(" + tree + ", 0)", reader.read(tree, 0), -1);
            CHECKS.due("read(" + tree + ", 19)", reader.read(tree, 19), -1);
            CHECKS.due("state", Checks.state(reader), "-1; ; 0@-1=0; 0@-1=0; ; true");
            CHECKS.due("read(0, 19)", reader.read(0, 19), 1);
        }
    }

    private static void readBeyondTheBytes() {
        CHECKS.about("or n is not 0 .. the number of bytes");
        for (int tree = 0; tree <= 1; tree++) {
            CHECKS.due("read(" + tree + ", -1) of none", new TermReader().read(tree, -1), -1);
            CHECKS.due("read(" + tree + ", 0) of none", new TermReader().read(tree, 0), 0);
            CHECKS.due("read(" + tree + ", 1) of none", new TermReader().read(tree, 1), -1);
            for (int bytes : new int[] {6, 7, 20, 7999, 8000}) {
                TermReader reader = Checks.withBytes(bytes);
                for (int n : new int[] {LOW, -1, bytes + 1, 8001, HIGH}) {
                    CHECKS.due("read(" + tree + ", " + n + ") of " + bytes, reader.read(tree, n), -1);
                }
                CHECKS.due("read all of " + bytes, reader.read(tree, bytes), 0);
                CHECKS.due("fault of a term alone", reader.fault(), 0);
                CHECKS.due("read 0 of " + bytes, Checks.withBytes(bytes).read(tree, 0), 0);
            }
        }
    }

    private static void readRefusedChangesNothing() {
        CHECKS.about("NONE, changing nothing, when there is no such tree, or n is not 0 .. the number of bytes.");
        TermReader reader = Checks.readerOf("norm a b. #");
        Checks.read(reader, 1, "check c: d. axiom )");
        reader.write(0, 1);
        Checks.feed(reader, "norm e f. norm g. )");
        String before = Checks.state(reader);
        int[][] refused = {{-1, 0}, {2, 0}, {2, 20}, {-1, 20}, {0, -1}, {1, -1}, {0, 21}, {1, 21}, {LOW, LOW}};
        for (int[] call : refused) {
            CHECKS.due("read(" + call[0] + ", " + call[1] + ")", reader.read(call[0], call[1]), -1);
            CHECKS.due("state", Checks.state(reader), before);
        }
        CHECKS.due("read(1, 19)", reader.read(1, 19), 2);
        CHECKS.due("fault", reader.fault(), 18);
    }

    private static void faultOfTheLastText() {
        CHECKS.about("The place of the fault of the text that was read last");
        TermReader reader = new TermReader();
        String[] texts = {".", "norm a. #", "norm a.", "norm", "", "  )"};
        int[] faults = {0, 8, -1, 4, -1, 2};
        for (int i = 0; i < texts.length; i++) {
            Checks.read(reader, i & 1, texts[i]);
            CHECKS.due("fault of " + texts[i], reader.fault(), faults[i]);
        }
        Checks.feed(reader, "norm a.");
        reader.write(0, 0);
        reader.again();
        reader.read(0, 9999);
        CHECKS.due("fault behind other calls", reader.fault(), 2);
        CHECKS.reads("a" + " ".repeat(7999), 0, 0);
        CHECKS.reads("norm a." + " ".repeat(7992) + ")", 1, 7999);
        CHECKS.reads("norm a" + " ".repeat(7994), 0, 8000);
        CHECKS.reads("norm a" + " ".repeat(7993) + ".", 1, -1);
    }

    private static void faultWithoutAny() {
        CHECKS.about("NONE when it had none, or there was no text.");
        TermReader reader = new TermReader();
        CHECKS.due("no text", reader.fault(), -1);
        Checks.feed(reader, "#");
        CHECKS.due("a text that is not read yet", reader.fault(), -1);
        reader.read(2, 1);
        CHECKS.due("a text that was refused", reader.fault(), -1);
        reader.read(0, 0);
        CHECKS.due("an empty text", reader.fault(), -1);
        Checks.read(reader, 0, "#");
        CHECKS.due("a text of no token", reader.fault(), 0);
        Checks.read(reader, 0, "norm a.");
        CHECKS.due("a text without a fault", reader.fault(), -1);
    }

    private static void nodesOfATree() {
        CHECKS.about("How many nodes a tree has; NONE when there is no such tree.");
        TermReader reader = Checks.readerOf("norm a.");
        CHECKS.due("nodes(0)", reader.nodes(0), 3);
        CHECKS.due("nodes(1)", reader.nodes(1), 1);
        for (int tree : NO_TREES) {
            CHECKS.due("nodes(" + tree + ")", reader.nodes(tree), -1);
        }
        CHECKS.due("nodes of most atoms", Checks.readerOf("norm " + "a ".repeat(3997) + ".").nodes(0), 7995);
        CHECKS.due("nodes of a fault", Checks.readerOf("norm " + "a ".repeat(3997) + ")").nodes(0), 1);
    }

    private static void nodeOfATree() {
        CHECKS.about("NONE when there is no such node");
        TermReader reader = Checks.readerOf("norm a b c.");
        Checks.read(reader, 1, "norm a.");
        for (int what = 0; what <= 4; what++) {
            CHECKS.due("the last of tree 0 is there", reader.node(0, 6, what) >= 0, true);
            CHECKS.due("the last of tree 1 is there", reader.node(1, 2, what) >= 0, true);
            for (int k : new int[] {LOW, -1, 7, 8, 8000, 8001, HIGH}) {
                CHECKS.due("node(0, " + k + ", " + what + ")", reader.node(0, k, what), -1);
            }
            CHECKS.due("node(1, 3, " + what + ")", reader.node(1, 3, what), -1);
            for (int tree : NO_TREES) {
                CHECKS.due("node(" + tree + ", 0, " + what + ")", reader.node(tree, 0, what), -1);
            }
        }
        Checks.read(reader, 0, "norm a.");
        CHECKS.due("the last of fewer", reader.node(0, 2, 0), 16);
        CHECKS.due("one of those before", reader.node(0, 3, 0), -1);
    }

    private static void nodeAsked() {
        CHECKS.about("what = 0 its kind, 1 its place, 2 its value, 3 how many nodes .., 4 how many parts. NONE when .. none of these.");
        TermReader reader = Checks.readerOf("norm a  b.");
        int[][] due = {{0, -1, 0, 5, 1}, {7, 0, 0, 4, 1}, {14, 5, 0, 3, 2}, {16, 5, 0, 1, 0}, {16, 8, 1, 1, 0}};
        for (int k = 0; k < due.length; k++) {
            for (int what = 0; what < 5; what++) {
                CHECKS.due("node(0, " + k + ", " + what + ")", reader.node(0, k, what), due[k][what]);
            }
            for (int what : new int[] {LOW, -1, 5, 6, HIGH}) {
                CHECKS.due("node(0, " + k + ", " + what + ")", reader.node(0, k, what), -1);
            }
        }
    }

    private static void partOfANode() {
        CHECKS.about("The number of part i, from 0, of a node; NONE when there is none.");
        TermReader reader = Checks.readerOf("def a (b c: d) := let e := Type in rec f Prop. check g.");
        int[][] parts = {{1, 15}, {2, 3, 7, 8}, {}, {4, 5, 6}, {}, {}, {}, {}, {9, 10, 11, 12}, {}, {}, {},
            {13, 14}, {}, {}, {16, 17}, {}, {}};
        CHECKS.due("nodes", reader.nodes(0), parts.length);
        for (int k = 0; k < parts.length; k++) {
            int count = parts[k].length;
            CHECKS.due("parts of " + k, reader.node(0, k, 4), count);
            for (int i = 0; i < count; i++) {
                CHECKS.due("part(0, " + k + ", " + i + ")", reader.part(0, k, i), parts[k][i]);
            }
            for (int i : new int[] {LOW, -1, count, count + 1, HIGH}) {
                CHECKS.due("part(0, " + k + ", " + i + ")", reader.part(0, k, i), -1);
            }
        }
        for (int k : new int[] {LOW, -1, parts.length, 8001, HIGH}) {
            CHECKS.due("part(0, " + k + ", 0)", reader.part(0, k, 0), -1);
        }
        for (int tree : NO_TREES) {
            CHECKS.due("part(" + tree + ", 0, 0)", reader.part(tree, 0, 0), -1);
        }
        CHECKS.due("part of an empty text", reader.part(1, 0, 0), -1);
    }

    private static void wholeOfANode() {
        CHECKS.about("NONE for 0, and when there is no such node.");
        TermReader reader = Checks.readerOf("norm a b. norm c.");
        int[] wholes = {-1, 0, 1, 2, 2, 0, 5};
        for (int k = 0; k < wholes.length; k++) {
            CHECKS.due("whole(0, " + k + ")", reader.whole(0, k), wholes[k]);
        }
        for (int k : new int[] {LOW, -1, 7, 8, 8001, HIGH}) {
            CHECKS.due("whole(0, " + k + ")", reader.whole(0, k), -1);
        }
        CHECKS.due("whole(1, 0)", reader.whole(1, 0), -1);
        CHECKS.due("whole(1, 1)", reader.whole(1, 1), -1);
        for (int tree : NO_TREES) {
            CHECKS.due("whole(" + tree + ", 1)", reader.whole(tree, 1), -1);
        }
    }

    private static void names() {
        CHECKS.about("How many names there are.");
        TermReader reader = new TermReader();
        String[] texts = {"", "norm )", "norm Prop.", "norm a.", "norm a a.", "norm b", "norm A.", "norm aa a' a0 a_."};
        int[] names = {0, 0, 0, 1, 1, 1, 2, 6};
        for (int i = 0; i < texts.length; i++) {
            Checks.read(reader, i & 1, texts[i]);
            CHECKS.due("names behind " + texts[i], reader.names(), names[i]);
        }
        reader.read(0, 0);
        reader.read(1, 0);
        CHECKS.due("names without trees", reader.names(), 6);
    }

    private static void speltByte() {
        CHECKS.about("Byte i of a name, from 0; NONE when there is none.");
        String longest = "_" + "z9'A".repeat(9) + "Z0a";
        TermReader reader = Checks.readerOf("norm b " + longest + " cd.");
        String[] names = {"b", longest, "cd"};
        for (int name = 0; name < 3; name++) {
            int length = names[name].length();
            for (int i = 0; i < length; i++) {
                CHECKS.due("spelt(" + name + ", " + i + ")", reader.spelt(name, i), (int) names[name].charAt(i));
            }
            for (int i : new int[] {LOW, -1, length, length + 1, HIGH}) {
                CHECKS.due("spelt(" + name + ", " + i + ")", reader.spelt(name, i), -1);
            }
        }
        for (int name : new int[] {LOW, -1, 3, 4, 4096, HIGH}) {
            CHECKS.due("spelt(" + name + ", 0)", reader.spelt(name, 0), -1);
        }
    }

    private static void writeNothing() {
        CHECKS.about("A node is written (NOTHING as no bytes): how many bytes that are.");
        TermReader reader = Checks.readerOf("check a.");
        CHECKS.due("write the text", reader.write(0, 0), 9);
        CHECKS.due("write the check", reader.write(0, 1), 8);
        CHECKS.due("write the name", reader.write(0, 2), 1);
        CHECKS.due("the name", Checks.written(reader), "a");
        CHECKS.due("write NOTHING", reader.write(0, 3), 0);
        CHECKS.due("no bytes", Checks.written(reader), "");
        reader.write(0, 1);
        CHECKS.due("write an empty text", reader.write(1, 0), 0);
        CHECKS.due("no bytes", Checks.written(reader), "");
    }

    private static void writeWithoutANode() {
        CHECKS.about("NONE, what was written before staying, when there is no such node");
        TermReader reader = Checks.readerOf("check a.");
        reader.write(0, 1);
        Checks.feed(reader, "norm b. norm c.");
        for (int k : new int[] {LOW, -1, 4, 5, 8001, HIGH}) {
            CHECKS.due("write(0, " + k + ")", reader.write(0, k), -1);
            CHECKS.due("what was written", Checks.written(reader), "check a.");
        }
        for (int tree : NO_TREES) {
            CHECKS.due("write(" + tree + ", 0)", reader.write(tree, 0), -1);
            CHECKS.due("what was written", Checks.written(reader), "check a.");
        }
        CHECKS.due("write(1, 1)", reader.write(1, 1), -1);
        CHECKS.due("write(0, 3), the last one", reader.write(0, 3), 0);
        CHECKS.due("the bytes stay", reader.read(1, 15), 2);
    }

    private static void writeBeyond8000() {
        CHECKS.about("NONE, what was written before staying, when .. there would be more than 8000.");
        for (int bytes = 7993; bytes <= 8007; bytes++) {
            boolean term = bytes <= 8000;
            boolean declaration = bytes + 6 <= 8000;
            boolean text = bytes + 7 <= 8000;
            TermReader reader = Checks.writerOf(bytes);
            CHECKS.due("the term of " + bytes, reader.write(0, 2), term ? bytes : -1);
            reader.write(0, 3);
            String before = Checks.written(reader);
            CHECKS.due("its declaration", reader.write(0, 1), declaration ? bytes + 6 : -1);
            CHECKS.due("its last byte", reader.written(bytes + 5), declaration ? (int) '.' : -1);
            CHECKS.due("none behind it", reader.written(bytes + 6), -1);
            CHECKS.due("its first name, which is written also behind a refusal", reader.write(0, 3), before.length());
            CHECKS.due("its text", reader.write(0, 0), text ? bytes + 7 : -1);
            CHECKS.due("its last byte", reader.written(bytes + 6), text ? 10 : -1);
            if (!text) {
                CHECKS.due("what was written", Checks.written(reader), before);
            }
            CHECKS.due("again", reader.again(), text ? bytes + 7 : before.length());
        }
    }

    private static void writtenByte() {
        CHECKS.about("Byte i of what was written; NONE when there is none.");
        TermReader reader = Checks.readerOf("norm a.");
        CHECKS.due("before a write", reader.written(0), -1);
        reader.write(0, 0);
        String text = "norm a.\n";
        for (int i = 0; i < text.length(); i++) {
            CHECKS.due("written(" + i + ")", reader.written(i), (int) text.charAt(i));
        }
        for (int i : new int[] {LOW, -1, 8, 9, 7999, 8000, 8001, HIGH}) {
            CHECKS.due("written(" + i + ")", reader.written(i), -1);
        }
        reader.write(0, 2);
        CHECKS.due("the last of fewer", reader.written(0), (int) 'a');
        CHECKS.due("one of those before", reader.written(1), -1);
        reader = Checks.writerOf(8000);
        CHECKS.due("written(7999)", reader.written(7999), (int) 'a');
        CHECKS.due("written(8000)", reader.written(8000), -1);
    }

    private static void againAtFirst() {
        CHECKS.about("What was written (nothing at first) takes the place of all bytes");
        CHECKS.due("again of a new object", new TermReader().again(), 0);
        TermReader reader = new TermReader();
        Checks.feed(reader, "norm a.");
        CHECKS.due("again behind feed", reader.again(), 0);
        CHECKS.due("read one", reader.read(0, 1), -1);
        CHECKS.due("feed", reader.feed(0, 0, 0, 0, 0), 20);
        reader = Checks.readerOf("check a.");
        reader.write(0, 1);
        reader.write(0, 3);
        Checks.feed(reader, "norm a.");
        CHECKS.due("again of NOTHING", reader.again(), 0);
        CHECKS.due("read one", reader.read(0, 1), -1);
    }

    private static void againInPlaceOfAllBytes() {
        CHECKS.about("takes the place of all bytes: how many there are then.");
        TermReader reader = Checks.readerOf("norm a->b.");
        reader.write(0, 0);
        Checks.feed(reader, "norm x. norm y. norm z.");
        CHECKS.due("again in place of more", reader.again(), 13);
        CHECKS.due("and again in its own", reader.again(), 13);
        CHECKS.due("written stays", Checks.written(reader), "norm a -> b.\n");
        CHECKS.due("read one more", reader.read(1, 14), -1);
        CHECKS.due("read all", reader.read(1, 13), 1);
        CHECKS.due("all are gone", reader.read(1, 1), -1);
        CHECKS.due("again in place of none", reader.again(), 13);
        CHECKS.due("feed behind it", Checks.feed(reader, "norm c."), 33);
        CHECKS.due("read both", reader.read(0, 20), 2);
        CHECKS.due("tree", Checks.rewrittenTree(reader, 0), "norm a -> b.\nnorm c.\n");
        reader = Checks.writerOf(8000);
        CHECKS.due("again of 8000", reader.again(), 8000);
        CHECKS.due("read 8000", reader.read(1, 8000), 0);
        CHECKS.due("again of what stayed", reader.again(), 8000);
        CHECKS.due("feed behind it", reader.feed(0, 0, 0, 0, 0), -1);
    }

    private static void same(String one, String other, boolean want) {
        TermReader reader = new TermReader();
        Checks.read(reader, 0, one);
        Checks.read(reader, 1, other);
        CHECKS.due("same of " + one + " and " + other, reader.same(), want);
        reader = new TermReader();
        Checks.read(reader, 1, one);
        Checks.read(reader, 0, other);
        CHECKS.due("same of " + other + " and " + one, reader.same(), want);
    }

    private static void sameButForPlaces() {
        CHECKS.about("Whether both trees are the same but for places.");
        CHECKS.due("two empty trees", new TermReader().same(), true);
        same("", "#", true);
        same("", "norm a.", false);
        same("norm a.", " norm\n((a)){--}. )", true);
        same("norm fun (a: b) => c.", "norm fun a: b => c.", true);
        same("norm a b.", "norm b a.", false);
        same("norm a b.", "norm a -> b.", false);
        same("norm a b.", "norm a b c.", false);
        same("norm a. norm a.", "norm a.", false);
        same("norm a. norm a.", "norm a. norm b.", false);
        same("norm a.", "norm Prop.", false);
        same("norm Type.", "norm Type0.", true);
        same("norm Type9.", "norm Type10.", false);
        same("norm Prop.", "norm Type0.", false);
        same("check a: b.", "check a.", false);
        same("def a := b.", "def a: c := b.", false);
        same("axiom a (b c: d): e.", "axiom a (b: d) (c: d): e.", false);
        same("axiom a: a.", "norm a a.", false);
        same("norm a' a_.", "norm a_ a'.", false);
        String longest = "norm " + "a ".repeat(3996);
        same(longest + ".", longest + ".", true);
        same(longest + "a.", longest + "b.", false);
    }
}
