/** Promises 1 to 4: a new object, feed, read and fault. */
public final class FeedAndReadTest {
    private static final Checks CHECKS = new Checks();
    private static final String NAME_OF_40 = "abcdefghijklmnopqrstuvwxyz_0123456789'ABC";

    public static void main(String[] args) {
        newObject();
        feed();
        bytesAreFedHighestFirst();
        read();
        readRefuses();
        otherTreeStays();
        wholeTexts();
        blanksAndRemarks();
        tokens();
        faultsOfDeclarations();
        faultsOfTerms();
        faultsOfDepth();
        faultsAreForgotten();
        CHECKS.end();
    }

    private static void newObject() {
        TermReader reader = new TermReader();
        CHECKS.due("NONE", TermReader.NONE, -1);
        CHECKS.due("new: names", reader.names(), 0);
        CHECKS.due("new: fault", reader.fault(), -1);
        CHECKS.due("new: written", reader.written(0), -1);
        CHECKS.due("new: spelt", reader.spelt(0, 0), -1);
        CHECKS.due("new: same", reader.same(), true);
        CHECKS.due("new: read beyond no bytes", reader.read(0, 1), -1);
        for (int tree = 0; tree < 2; tree++) {
            CHECKS.due("new: nodes", reader.nodes(tree), 1);
            CHECKS.due("new: shape", Checks.shape(reader, tree, 0), "0@-1=0");
            CHECKS.due("new: size", reader.node(tree, 0, 3), 1);
            CHECKS.due("new: whole", reader.whole(tree, 0), -1);
            CHECKS.due("new: part", reader.part(tree, 0, 0), -1);
        }
        CHECKS.due("new: write", reader.write(0, 0), 0);
        CHECKS.due("new: again", reader.again(), 0);
    }

    private static void feed() {
        TermReader reader = new TermReader();
        for (int i = 1; i <= 400; i++) {
            CHECKS.due("feed " + i, reader.feed(0, 0, 0, 0, 0), 20 * i);
        }
        CHECKS.due("feed 401", reader.feed(0, 0, 0, 0, 0), -1);
        CHECKS.due("read 8001", reader.read(0, 8001), -1);
        CHECKS.due("read 8000", reader.read(0, 8000), 0);
        CHECKS.due("feed after read", reader.feed(0, 0, 0, 0, 0), 20);
    }

    private static void bytesAreFedHighestFirst() {
        TermReader reader = new TermReader();
        reader.feed(0x6e6f726d, 0x20616263, 0x64656667, 0x68696a6b, 0x6c6d6e2e);
        CHECKS.due("read fed bytes", reader.read(0, 20), 1);
        CHECKS.due("spelt", Checks.spelt(reader, 0), "abcdefghijklmn");
        reader.feed(0x6e6f726d, 0x20612eff, -1, -1, -1);
        CHECKS.due("read bytes below 0", reader.read(0, 20), 1);
        CHECKS.due("fault at 255", reader.fault(), 7);
    }

    private static void read() {
        TermReader reader = new TermReader();
        CHECKS.due("read none", reader.read(0, 0), 0);
        CHECKS.due("read one", Checks.read(reader, 0, "norm a."), 1);
        CHECKS.due("read three", Checks.read(reader, 0, "norm a.norm b. norm c."), 3);
        CHECKS.due("all bytes are gone", reader.read(0, 1), -1);
        CHECKS.due("read two and a fault", Checks.read(reader, 0, "norm a. norm b. norm )."), 2);
        CHECKS.due("fault", reader.fault(), 21);
        CHECKS.due("nodes of the two", reader.nodes(0), 5);
        Checks.feed(reader, "norm a. norm b.");
        CHECKS.due("read the first bytes", reader.read(0, 13), 1);
        CHECKS.due("fault at their end", reader.fault(), 13);
        CHECKS.due("the others are gone too", reader.read(0, 1), -1);
        CHECKS.due("read none again", reader.read(0, 0), 0);
        CHECKS.due("no fault again", reader.fault(), -1);
    }

    private static void readRefuses() {
        TermReader reader = new TermReader();
        Checks.read(reader, 0, "norm a. #");
        Checks.feed(reader, "norm bcd efg hij kl.");
        int[][] wrong = {{-1, 0}, {2, 20}, {Integer.MIN_VALUE, 5}, {Integer.MAX_VALUE, 5}, {0, -1},
            {0, 21}, {1, 21}, {1, Integer.MAX_VALUE}, {0, Integer.MIN_VALUE}};
        for (int[] call : wrong) {
            CHECKS.due("read(" + call[0] + ", " + call[1] + ")", reader.read(call[0], call[1]), -1);
        }
        CHECKS.due("fault stays", reader.fault(), 8);
        CHECKS.due("tree stays", reader.nodes(0), 3);
        CHECKS.due("names stay", reader.names(), 1);
        CHECKS.due("bytes stay", reader.read(1, 20), 1);
    }

    private static void otherTreeStays() {
        TermReader reader = new TermReader();
        Checks.read(reader, 0, "norm a b.");
        Checks.read(reader, 1, "norm c. #");
        CHECKS.due("tree 0", Checks.shape(reader, 0, 0), "0@-1=0[7@0=0[14@5=0[16@5=0 16@7=1]]]");
        CHECKS.due("tree 1", Checks.shape(reader, 1, 0), "0@-1=0[7@0=0[16@5=2]]");
        Checks.read(reader, 0, "");
        CHECKS.due("tree 0 is empty", Checks.shape(reader, 0, 0), "0@-1=0");
        CHECKS.due("tree 1 stays", reader.nodes(1), 3);
    }

    private static void wholeTexts() {
        String[] texts = {
            "axiom a: b.", "axiom a (b: c) (d e f: g): h.",
            "def a: b := c.", "def a := c.", "def a (b: c): d := e.", "def a (b c: d) := e.",
            "lemma a: b := c.", "lemma a (b: c): d := e.",
            "data a: b.", "data a: b | c: d.", "data a (b: c): d | e: f | g: h -> a | i: j.",
            "check a: b.", "check a.", "norm a.",
            "norm fun a: b => c.", "norm fun a b c: d => e.", "norm fun (a: b) (c d: e) => f.",
            "norm all a: b, c.", "norm all (a b: c), d.",
            "norm let a: b := c in d.", "norm let a := b in c.", "norm let a := let b := c in d in e.",
            "norm a -> b -> c.", "norm a b -> c d.", "norm (a: b) (c) ((d)).", "norm (fun a: b => c: d).",
            "norm Prop Type Type0 Type9 Type10 Type99 rec a Prop rec b Type7.",
            "check fun a: b => c: d.", "norm all a: all b: c, d, e.", "norm all a: b -> c, d.",
            "norm a fun'.", "norm inn lets _fun recs Props Types axioms'.",
        };
        for (String text : texts) {
            TermReader reader = new TermReader();
            CHECKS.due(text, Checks.read(reader, 0, text), 1);
            CHECKS.due(text + " fault", reader.fault(), -1);
        }
    }

    private static void fault(String text, int place) {
        TermReader reader = new TermReader();
        CHECKS.due("read " + text, Checks.read(reader, 0, text) != TermReader.NONE, true);
        CHECKS.due("fault of " + text, reader.fault(), place);
    }

    private static void blanksAndRemarks() {
        fault(" \t\r\n", -1);
        fault("--", -1);
        fault("-- {- \n", -1);
        fault("-- a\rnorm )", -1);
        fault("-- a\n)", 5);
        fault("{--}", -1);
        fault("{---}", -1);
        fault("{-}", 0);
        fault("{-}-}", -1);
        fault("{-{-}-}-}", -1);
        fault("{-{--}-}", -1);
        fault("{-{--}", 0);
        fault("  {- {- -} ", 2);
        fault("{- -- -}norm )", 13);
        fault("{- -- -}\n)", 9);
        fault("{- # ( . \0 \377 -}", -1);
        fault("norm a{-", 6);
        fault("norm a. {- ", 8);
        fault("norm{-x-}a--y\n.", -1);
        fault("-- {-\nnorm a.", -1);
        fault("norm a -} b.", 7);
        fault("norm a --> b.\n.", -1);
        fault("norm a ->-- b.\nb.", -1);
        fault("norm a\013.", 6);
        fault("norm a\014.", 6);
        fault("norm a\240.", 6);
        fault("norm a.-", 7);
        fault("norm a.{", 7);
    }

    private static void tokens() {
        fault("norm " + NAME_OF_40.substring(0, 40) + ".", -1);
        fault("norm " + NAME_OF_40 + ".", 5);
        fault("norm " + NAME_OF_40 + " ) {-", 5);
        fault("norm a " + NAME_OF_40 + NAME_OF_40, 7);
        fault("norm 1.", 5);
        fault("norm 'a.", 5);
        fault("norm a'1_'.", -1);
        fault("norm _.", -1);
        fault("norm a = > b.", 7);
        fault("norm a - > b.", 7);
        fault("norm fun a: b = > c.", 14);
        fault("def a : = b.", 8);
        fault("def a :=> b.", 8);
        fault("def a:=b.", -1);
        fault("def a :: b := c.", 7);
        fault("norm Type00.", -1);
        fault("norm Type 1.", 10);
        fault("norm rec a Type01.", 11);
        fault("norm rec a Type100.", 11);
        fault("norm rec a Type10.", -1);
        fault("norm rec a Type0'.", 11);
        fault("norm rec a Prop0.", 11);
        fault("norm in.", 5);
        fault("norm fun.", 8);
        fault("axiom Type: a.", 6);
        fault("axiom Type01: a.", -1);
        fault("axiom Prop: a.", 6);
        fault("axiom norm: a.", 6);
        fault("axiom Fun: a.", -1);
        fault("norm a[b].", 6);
        fault("norm @.", 5);
        fault("norm `.", 5);
        fault("norm a\0.", 6);
    }

    private static void faultsOfDeclarations() {
        fault("a.", 0);
        fault(".", 0);
        fault("norm a. .", 8);
        fault("norm a.. ", 7);
        fault("norm", 4);
        fault("norm  ", 6);
        fault("norm a -- b.", 12);
        fault("norm.", 4);
        fault("norm a: b.", 6);
        fault("norm a := b.", 7);
        fault("check a: b: c.", 10);
        fault("check a: .", 9);
        fault("check a := b.", 8);
        fault("axiom a.", 7);
        fault("axiom a := b.", 8);
        fault("axiom a b: c.", 8);
        fault("axiom (a: b): c.", 6);
        fault("axiom a (): c.", 9);
        fault("axiom a (b): c.", 10);
        fault("axiom a (b: c: d): e.", 13);
        fault("axiom a ((b): c): d.", 9);
        fault("axiom a: b := c.", 11);
        fault("axiom a: b | c: d.", 11);
        fault("def a.", 5);
        fault("def a: b.", 8);
        fault("def a (b: c) d: e := f.", 13);
        fault("def a := b := c.", 11);
        fault("def a := b: c.", 10);
        fault("lemma a := b.", 8);
        fault("lemma a (b: c) := d.", 15);
        fault("lemma a: b.", 10);
        fault("data a | b: c.", 7);
        fault("data a: b | c.", 13);
        fault("data a: b | c d: e.", 14);
        fault("data a: b | (c: d).", 12);
        fault("data a: b | .", 12);
        fault("data a: b | c: d := e.", 17);
        fault("data a := b.", 7);
    }

    private static void faultsOfTerms() {
        fault("norm fun => a.", 9);
        fault("norm fun a => b.", 11);
        fault("norm fun a: b, c.", 13);
        fault("norm all a: b => c.", 14);
        fault("norm fun (a: b) c: d => e.", 16);
        fault("norm fun a: b (c: d) => e.", -1);
        fault("norm fun a (b: c) => d.", 11);
        fault("norm fun (a) => b.", 11);
        fault("norm fun (a: b) .", 16);
        fault("norm let a b := c in d.", 11);
        fault("norm let (a: b) := c in d.", 9);
        fault("norm let a: b in c.", 14);
        fault("norm let a := b.", 15);
        fault("norm let a := b in.", 18);
        fault("norm let in := b in c.", 9);
        fault("norm a -> .", 10);
        fault("norm -> a.", 5);
        fault("norm a fun b: c => d.", 7);
        fault("norm a let b := c in d.", 7);
        fault("norm a -> -> b.", 10);
        fault("norm ().", 6);
        fault("norm (a.", 7);
        fault("norm a).", 6);
        fault("norm (a: b: c).", 10);
        fault("norm (a :).", 9);
        fault("norm (a, b).", 7);
        fault("norm rec.", 8);
        fault("norm rec a.", 10);
        fault("norm rec a b.", 11);
        fault("norm rec Prop a.", 9);
        fault("norm rec (a) Prop.", 9);
        fault("norm a | b.", 7);
        fault("norm a axiom.", 7);
        fault("norm a -> b => c.", 12);
    }

    private static void faultsOfDepth() {
        String open = "(".repeat(99);
        String close = ")".repeat(99);
        fault("norm " + open + "a" + close + ".", -1);
        fault("norm " + open + "(a)" + close + ".", 105);
        fault("norm " + open + "(  a)" + close + ".", 107);
        fault("norm " + open + "(#", 105);
        fault("norm " + open + "( ", 106);
        fault("norm " + open + "a -> b -> fun c: d => e" + close + ".", 121);
        fault("norm " + open + "a b c -> d -> rec e Type" + close + ".", -1);
        fault("norm " + open + "fun a: b => c", 111);
        fault("norm " + open + "fun (a: b) => c", 112);
        fault("norm " + open + "let a: b := c", 111);
        fault("norm " + open + "let a := b", 113);
        fault("norm " + open.substring(1) + "let a: b := c in all d: e, f" + close.substring(1) + ".", -1);
        fault("norm " + open.substring(1) + "(a: b)" + close.substring(1) + ".", -1);
        fault("norm " + open + ": a", 104);
        fault("norm " + open + "a: b" + close + ".", -1);
        fault("norm " + open + "a: (b", 108);
        fault("axiom a (b: " + open + "c" + close + "): " + open + "d" + close + ".", -1);
        fault("axiom a (b: " + open + "(c", 112);
        fault("data a: b | c: " + open + "(d", 115);
        fault("check a: " + open + "(d", 109);
        fault("def a := " + open + "(d", 109);
        fault("norm " + "fun a: ".repeat(100) + "b", 5 + 7 * 100);
        fault("norm " + "fun a: ".repeat(99) + "b" + " => c".repeat(99) + ".", -1);
        fault("norm " + "fun a: b => ".repeat(500) + "c.", -1);
        fault("norm " + "all (a: b), ".repeat(500) + open + "c" + close + ".", -1);
        fault("norm " + "let a := b in ".repeat(500) + "c.", -1);
        fault("norm " + "a -> ".repeat(1500) + "(c).", -1);
        fault("norm " + "(a) ".repeat(1500) + ".", -1);
        fault("norm " + "(".repeat(7000) + "a", 105);
        // As much as can wait for its end in 8000 bytes.
        fault("norm " + "a->".repeat(2664) + "b.", -1);
        fault("norm " + "all a:b,".repeat(999) + "c.", -1);
        String funs = "fun(a:".repeat(98) + "a b";
        String rest = ")=>c".repeat(98);
        fault("norm " + "a->".repeat(2330) + funs + rest + ".", -1);
        fault("norm " + "all a:b,".repeat(870) + funs + rest + ".", -1);
        fault("norm " + "a(".repeat(98) + "a->".repeat(2560) + "b" + ")".repeat(98) + ".", -1);
    }

    private static void faultsAreForgotten() {
        TermReader reader = new TermReader();
        for (int i = 0; i < 30; i++) {
            CHECKS.due("read a deep fault", Checks.read(reader, 0, "norm " + "(".repeat(99) + "#"), 0);
            CHECKS.due("the deep fault", reader.fault(), 104);
        }
        Checks.read(reader, 0, "norm " + "(".repeat(99) + "a" + ")".repeat(99) + ".");
        CHECKS.due("no fault is left", reader.fault(), -1);
        for (int i = 0; i < 20; i++) {
            CHECKS.due("read a long fault", Checks.read(reader, 0, "norm " + "all a:b,".repeat(16) + "#"), 0);
        }
        CHECKS.due("the long fault", reader.fault(), 133);
    }
}
