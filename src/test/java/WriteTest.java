/** Promises 11 to 14: write, written, again and same. */
public final class WriteTest {
    private static final Checks CHECKS = new Checks();

    public static void main(String[] args) {
        declarations();
        fewestBrackets();
        nodesByThemselves();
        noSuchNode();
        mostBytes();
        again();
        same();
        CHECKS.end();
    }

    private static void rewritten(String text, String want) {
        CHECKS.due("rewritten " + text, Checks.rewritten(text), want);
    }

    private static void stays(String text) {
        rewritten(text, text + "\n");
    }

    private static void declarations() {
        stays("axiom a: b.");
        stays("axiom a (b: c) (d e: f): g.");
        stays("def a: b := c.");
        stays("def a := b.");
        stays("def a (b: c): d := e.");
        stays("def a (b: c) (d: e) := f.");
        stays("lemma a: b := c.");
        stays("lemma a (b c d: e): f := g.");
        stays("data a: b.");
        stays("data a (b: c): d | e: f -> a | g: h.");
        stays("check a: b.");
        stays("check a.");
        stays("norm a.");
        rewritten("", "");
        rewritten("norm a.norm b.{-c-}check d:e.--", "norm a.\nnorm b.\ncheck d: e.\n");
        rewritten("norm a. norm", "norm a.\n");
        rewritten("data\ta\n:b|c:d|e\r:f.", "data a: b | c: d | e: f.\n");
        rewritten("def a(b c:d)(e:f):=g.", "def a (b c: d) (e: f) := g.\n");
    }

    private static void fewestBrackets() {
        stays("norm fun a: b => c.");
        stays("norm fun a b: c => d.");
        stays("norm fun (a: b) (c d: e) => f.");
        stays("norm all a: b, c.");
        stays("norm all (a: b) (c: d), e.");
        rewritten("norm fun (a b: c) => d.", "norm fun a b: c => d.\n");
        rewritten("norm all (a: b), c.", "norm all a: b, c.\n");
        rewritten("axiom a (b: c): d.", "axiom a (b: c): d.\n");
        stays("norm let a: b := c in d.");
        stays("norm let a := b in c.");
        rewritten("norm let a: (b) := (c) in (d).", "norm let a: b := c in d.\n");
        rewritten("norm a -> (b -> c).", "norm a -> b -> c.\n");
        stays("norm (a -> b) -> c.");
        rewritten("norm (a b) c.", "norm a b c.\n");
        stays("norm a (b c).");
        rewritten("norm (a b) -> (c d).", "norm a b -> c d.\n");
        stays("norm (a -> b) c.");
        stays("norm a (b -> c).");
        stays("norm (fun a: b => c) d.");
        stays("norm a (fun b: c => d).");
        stays("norm (all a: b, c) d (all e: f, g).");
        stays("norm (let a := b in c) (let d := e in f).");
        stays("norm (fun a: b => c) -> d.");
        stays("norm (all a: b, c) -> d.");
        stays("norm (let a := b in c) -> d.");
        rewritten("norm a -> (fun b: c => d).", "norm a -> fun b: c => d.\n");
        rewritten("norm a -> (let b := c in d).", "norm a -> let b := c in d.\n");
        rewritten("norm fun a: (fun b: c => d) => (e).", "norm fun a: fun b: c => d => e.\n");
        rewritten("check (fun a: b => c): (all d: e, f).", "check fun a: b => c: all d: e, f.\n");
        stays("norm (a: b).");
        rewritten("norm (((a: b))).", "norm (a: b).\n");
        stays("norm (a: b) (c: d) -> (e: f).");
        rewritten("norm ((a b): (c -> d)).", "norm (a b: c -> d).\n");
        rewritten("norm (fun a: b => c: d).", "norm (fun a: b => c: d).\n");
        rewritten("norm (rec a Prop) (rec b Type) (Prop) (c).", "norm rec a Prop rec b Type0 Prop c.\n");
        rewritten("norm Type Type0 Type7 Type10 Type99 Type07.", "norm Type0 Type0 Type7 Type10 Type99 Type07.\n");
    }

    private static void byItself(String text, int k, String want) {
        TermReader reader = new TermReader();
        Checks.read(reader, 1, text);
        CHECKS.due("write node " + k + " of " + text, reader.write(1, k), want.length());
        CHECKS.due("node " + k + " of " + text, Checks.written(reader), want);
    }

    private static void nodesByThemselves() {
        byItself("norm a. norm b.", 3, "norm b.");
        byItself("data a (b: c): d | e: f | g: h.", 1, "data a (b: c): d | e: f | g: h.");
        byItself("data a (b: c): d | e: f | g: h.", 3, "(b: c)");
        byItself("data a (b: c): d | e: f | g: h.", 7, "e: f");
        byItself("data a (b: c): d | e: f | g: h.", 8, "e");
        byItself("norm fun a b: c => d.", 2, "fun a b: c => d");
        byItself("norm fun a b: c => d.", 3, "(a b: c)");
        byItself("norm fun a b: c => d.", 6, "c");
        byItself("norm all a: b, c.", 3, "(a: b)");
        byItself("norm all (a: b) (c: d), e.", 6, "(c: d)");
        byItself("check a.", 3, "");
        byItself("def a := b.", 3, "");
        byItself("norm let a: b := c in d.", 2, "let a: b := c in d");
        byItself("norm a (fun b: c => d).", 4, "fun b: c => d");
        byItself("norm (a -> b) -> c.", 3, "a -> b");
        byItself("norm a (b c).", 4, "b c");
        byItself("norm a (b: c).", 4, "(b: c)");
        byItself("norm a Type.", 4, "Type0");
        byItself("norm rec a Prop.", 2, "rec a Prop");
        byItself("norm rec a Prop.", 4, "Prop");
    }

    private static void noSuchNode() {
        TermReader reader = new TermReader();
        Checks.read(reader, 0, "norm a. check b.");
        reader.write(0, 1);
        int[] far = {Integer.MIN_VALUE, -1, 6, 8001, Integer.MAX_VALUE};
        for (int k : far) {
            CHECKS.due("write node " + k, reader.write(0, k), -1);
            CHECKS.due("write of tree " + k, reader.write(k, 0), -1);
            CHECKS.due("written " + (k == 6 ? 7 : k), reader.written(k == 6 ? 7 : k), -1);
        }
        CHECKS.due("write of tree 2", reader.write(2, 0), -1);
        CHECKS.due("what was written stays", Checks.written(reader), "norm a.");
        Checks.read(reader, 0, "norm c.");
        CHECKS.due("it stays when a text is read", Checks.written(reader), "norm a.");
        CHECKS.due("the other tree", reader.write(1, 0), 0);
        CHECKS.due("nothing is written then", reader.written(0), -1);
    }

    private static void mostBytes() {
        TermReader reader = new TermReader();
        CHECKS.due("read", Checks.read(reader, 0, "norm a1234567->" + "a->".repeat(1596) + "b."), 1);
        CHECKS.due("write 7999 bytes", reader.write(0, 1), 7999);
        CHECKS.due("write 8000 bytes", reader.write(0, 0), 8000);
        CHECKS.due("the last one", reader.written(7999), 10);
        CHECKS.due("none behind it", reader.written(8000), -1);
        CHECKS.due("again", reader.again(), 8000);
        CHECKS.due("feed", reader.feed(0, 0, 0, 0, 0), -1);
        CHECKS.due("read again", reader.read(1, 8000), 1);
        CHECKS.due("same", reader.same(), true);
        reader = new TermReader();
        Checks.read(reader, 0, "norm a12345678->" + "a->".repeat(1596) + "b.");
        CHECKS.due("write 8000 bytes", reader.write(0, 1), 8000);
        reader.write(0, 3);
        CHECKS.due("write 8001 bytes", reader.write(0, 0), -1);
        CHECKS.due("8001 bytes change nothing", Checks.written(reader), "a12345678");
        CHECKS.due("write 8000 bytes again", reader.write(0, 1), 8000);
        CHECKS.due("write 8001 bytes again", reader.write(0, 0), -1);
        CHECKS.due("what was written stays", reader.again(), 8000);
        CHECKS.due("and is read", reader.read(1, 8000), 1);
        CHECKS.due("as the same", reader.same(), true);
        Checks.feed(reader, "norm b.");
        reader.read(1, 7);
        CHECKS.due("write fewer bytes", reader.write(1, 0), 8);
        CHECKS.due("just these", Checks.written(reader), "norm b.\n");
    }

    private static void again() {
        TermReader reader = new TermReader();
        CHECKS.due("nothing at first", reader.again(), 0);
        Checks.feed(reader, "norm x.");
        CHECKS.due("nothing takes the place of bytes", reader.again(), 0);
        CHECKS.due("read", reader.read(0, 1), -1);
        Checks.read(reader, 0, "norm a->b.");
        reader.write(0, 0);
        Checks.feed(reader, "norm x. norm y. norm z.");
        CHECKS.due("again", reader.again(), 13);
        CHECKS.due("and again", reader.again(), 13);
        CHECKS.due("feed behind it", Checks.feed(reader, "norm c."), 33);
        CHECKS.due("read both", reader.read(1, 20), 2);
        reader.write(1, 0);
        CHECKS.due("both", Checks.written(reader), "norm a -> b.\nnorm c.\n");
        CHECKS.due("written is not read", reader.read(1, 1), -1);
    }

    private static void same(String one, String other, boolean want) {
        TermReader reader = new TermReader();
        Checks.read(reader, 0, one);
        Checks.read(reader, 1, other);
        CHECKS.due("same " + one + " and " + other, reader.same(), want);
    }

    private static void same() {
        same("", "", true);
        same("", " -- a", true);
        same("", "norm a.", false);
        same("norm a.", "", false);
        same("norm a.", "{--} norm\n((a)) .", true);
        same("norm a.", "norm b.", false);
        same("norm a.", "check a.", false);
        same("norm a b c.", "norm (a b) c.", true);
        same("norm a b c.", "norm a (b c).", false);
        same("norm a -> b.", "norm a b.", false);
        same("norm fun a: b => c.", "norm fun (a: b) => c.", true);
        same("norm fun (a b: c) => d.", "norm fun (a: c) (b: c) => d.", false);
        same("norm fun a: b => c.", "norm all a: b, c.", false);
        same("norm Type.", "norm Type0.", true);
        same("norm Type.", "norm Type1.", false);
        same("norm Prop.", "norm Type.", false);
        same("norm a. norm b.", "norm b. norm a.", false);
        same("norm a. norm b.", "norm a. norm b. #", true);
        same("norm a. norm b.", "norm a.", false);
        same("def a: b := c.", "lemma a: b := c.", false);
        same("def a (b: c) := d.", "def a (b: c): c := d.", false);
        same("check a: b.", "check (a: b).", false);
        same("data a: b | c: d.", "data a: b. axiom c: d.", false);
    }
}
