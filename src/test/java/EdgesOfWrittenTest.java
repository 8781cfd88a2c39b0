/**
 * The edges of what is written, one method for each sentence that names some: where the last brackets
 * and blanks stand that it asks for, and where there are none.
 */
public final class EdgesOfWrittenTest {
    private static final Checks CHECKS = new Checks();

    /** A term of each kind from 10 to 18. */
    private static final String[] TERMS = {"fun a: b => c", "all a: b, c", "let a := b in c", "a -> b", "a b",
        "(a: b)", "a", "Prop", "rec a Prop"};
    private static final int FIRST_KIND = 10;
    private static final int ARROW = 13;
    private static final int APPLICATION = 14;

    public static void main(String[] args) {
        constructors();
        groups();
        onlyGroups();
        typedTerms();
        firstParts();
        secondParts();
        noOtherBrackets();
        typesWithDigits();
        singleBlanks();
        noBlanks();
        behindDeclarations();
        nothing();
        CHECKS.end();
    }

    private static void rewritten(String text, String want) {
        TermReader reader = Checks.readerOf(text);
        CHECKS.due("fault of " + text, reader.fault(), -1);
        CHECKS.due("rewritten " + text, Checks.rewrittenTree(reader, 0), want + "\n");
        reader.again();
        CHECKS.due("read again " + want, reader.read(1, want.length() + 1) > 0, true);
        CHECKS.due("same again " + want, reader.same(), true);
    }

    private static void stays(String text) {
        rewritten(text, text);
    }

    private static void byItself(String text, int k, int kind, String want) {
        TermReader reader = Checks.readerOf(text);
        CHECKS.due("kind of node " + k + " of " + text, reader.node(0, k, 0), kind);
        CHECKS.due("write node " + k + " of " + text, reader.write(0, k), want.length());
        CHECKS.due("node " + k + " of " + text, Checks.written(reader), want);
    }

    private static void constructors() {
        CHECKS.about("a constructor that is written by itself has no |");
        String text = "data a: b | c: d -> a | e: f.";
        byItself(text, 4, 5, "c: d -> a");
        byItself(text, 9, 5, "e: f");
        byItself(text, 1, 4, text);
        byItself(text, 0, 0, text + "\n");
    }

    private static void groups() {
        CHECKS.about("a group that is written by itself has its brackets");
        byItself("norm fun a b: c => d.", 3, 8, "(a b: c)");
        byItself("norm fun (a b: c) => d.", 3, 8, "(a b: c)");
        byItself("norm all a: b, c.", 3, 8, "(a: b)");
        byItself("norm all (a: b) (c: d), e.", 3, 8, "(a: b)");
        byItself("norm all (a: b) (c: d), e.", 6, 8, "(c: d)");
        byItself("axiom a (b: c): d.", 3, 8, "(b: c)");
        byItself("norm fun a b: c => d.", 2, 10, "fun a b: c => d");
    }

    private static void onlyGroups() {
        CHECKS.about("those of a group are left out when it is the only one behind fun or all");
        rewritten("norm fun (a: b) => c.", "norm fun a: b => c.");
        rewritten("norm all (a b: c), d.", "norm all a b: c, d.");
        stays("norm fun a: b => c.");
        stays("norm all a: b, c.");
        stays("norm fun (a: b) (c: d) => e.");
        stays("norm all (a: b) (c: d), e.");
        stays("norm fun (a: b) (c: d) (e: f) => g.");
        stays("axiom a (b: c): d.");
        stays("def a (b: c) := d.");
        stays("lemma a (b: c): d := e.");
        stays("data a (b: c): d.");
        stays("axiom a (b: fun c: d => e): f.");
        rewritten("norm fun (a: b) => fun (c: d) => e.", "norm fun a: b => fun c: d => e.");
        rewritten("norm fun (a: fun (b: c) => d) => e.", "norm fun a: fun b: c => d => e.");
    }

    private static void typedTerms() {
        CHECKS.about("other round brackets stand only around (T : U)");
        stays("norm (a: b).");
        stays("check (a: b): (c: d).");
        stays("norm ((a: b): (c: d)).");
        stays("norm (a: b) (c: d) -> (e: f) -> (g: h).");
        rewritten("norm (((a: b))).", "norm (a: b).");
        rewritten("norm (((a)): ((b))).", "norm (a: b).");
        byItself("norm a (b: c).", 4, 15, "(b: c)");
    }

    /** Puts a term of each kind in brackets into a text, and tells up to which kind they stay. */
    private static void inBrackets(String before, int lastKind, String behind) {
        for (int i = 0; i < TERMS.length; i++) {
            String bracketed = before + "(" + TERMS[i] + ")" + behind;
            String bare = before + TERMS[i] + behind;
            rewritten(bracketed, FIRST_KIND + i <= lastKind ? bracketed : bare);
        }
    }

    private static void firstParts() {
        CHECKS.about("around a first part of an application or of -> that is fun, all, let or ->");
        inBrackets("norm ", ARROW, " d.");
        inBrackets("norm ", ARROW, " -> d.");
        inBrackets("norm ", ARROW, " d e.");
        inBrackets("norm (", ARROW, " d: e).");
        inBrackets("norm d -> ", ARROW, " -> e.");
        inBrackets("norm d -> ", ARROW, " e.");
        rewritten("norm ((a b) c) d.", "norm a b c d.");
        rewritten("norm ((fun a: b => c) d) e.", "norm (fun a: b => c) d e.");
        byItself("norm (fun a: b => c) d.", 3, 10, "fun a: b => c");
        byItself("norm (a -> b) -> c.", 3, 13, "a -> b");
    }

    private static void secondParts() {
        CHECKS.about("and around a second part of an application that is one of these or an application");
        inBrackets("norm d ", APPLICATION, ".");
        inBrackets("norm d ", APPLICATION, " e.");
        inBrackets("norm d ", APPLICATION, " -> e.");
        inBrackets("norm d e ", APPLICATION, ".");
        rewritten("norm a (b (c d)).", "norm a (b (c d)).");
        rewritten("norm a ((b c) d).", "norm a (b c d).");
        byItself("norm a (b c).", 4, 14, "b c");
        byItself("norm a (fun b: c => d).", 4, 10, "fun b: c => d");
    }

    private static void noOtherBrackets() {
        CHECKS.about("with the fewest brackets: .. stand only around ..");
        inBrackets("norm d -> ", 0, ".");
        inBrackets("norm d e -> ", 0, ".");
        inBrackets("norm ", 0, ".");
        inBrackets("check ", 0, ".");
        inBrackets("check ", 0, ": d.");
        inBrackets("check d: ", 0, ".");
        inBrackets("axiom d: ", 0, ".");
        inBrackets("axiom d (e: ", 0, "): f.");
        inBrackets("def d: ", 0, " := e.");
        inBrackets("def d := ", 0, ".");
        inBrackets("lemma d: ", 0, " := e.");
        inBrackets("lemma d: e := ", 0, ".");
        inBrackets("data d: ", 0, ".");
        inBrackets("data d: ", 0, " | e: f.");
        inBrackets("data d: e | f: ", 0, ".");
        inBrackets("data d: e | f: ", 0, " | g: h.");
        inBrackets("norm fun d: ", 0, " => e.");
        inBrackets("norm fun d: e => ", 0, ".");
        inBrackets("norm fun (d: ", 0, ") (e: f) => g.");
        inBrackets("norm all d: ", 0, ", e.");
        inBrackets("norm all d: e, ", 0, ".");
        inBrackets("norm let d: ", 0, " := e in f.");
        inBrackets("norm let d := ", 0, " in e.");
        inBrackets("norm let d := e in ", 0, ".");
        inBrackets("norm (", 0, ": d).");
        inBrackets("norm (d: ", 0, ").");
        rewritten("norm a -> (b -> (c -> d)).", "norm a -> b -> c -> d.");
        rewritten("norm (" + "(".repeat(98) + "a" + ")".repeat(98) + ").", "norm a.");
    }

    private static void typesWithDigits() {
        CHECKS.about("Type is written with its digits.");
        rewritten("norm Type.", "norm Type0.");
        stays("norm Prop.");
        for (int number = 0; number <= 99; number++) {
            stays("norm Type" + number + ".");
        }
        stays("norm Type00 Type01 Type100.");
        rewritten("norm rec a Type.", "norm rec a Type0.");
        byItself("norm a Type.", 4, 17, "Type0");
    }

    private static void singleBlanks() {
        CHECKS.about("Single blanks stand between tokens");
        rewritten("data\ta\n(b\r\nc{--}:d)  :--\ne|f:g|h:i.", "data a (b c: d): e | f: g | h: i.");
        rewritten("def a(b:c)(d:e):f:=g.", "def a (b: c) (d: e): f := g.");
        rewritten("def a(b:c):=g.", "def a (b: c) := g.");
        rewritten("norm fun(a:b)(c:d)=>let e:f:=g in h->i.", "norm fun (a: b) (c: d) => let e: f := g in h -> i.");
        rewritten("norm let a:=b in(c:d)(e f).", "norm let a := b in (c: d) (e f).");
        rewritten("norm    rec   a   Prop   b  .", "norm rec a Prop b.");
        rewritten("norm(a->b)c->(d).", "norm (a -> b) c -> d.");
    }

    private static void noBlanks() {
        CHECKS.about("but none behind (, nor before ) : , and .");
        rewritten("norm ( a : b ) .", "norm (a: b).");
        rewritten("norm ( ( a : b ) : ( c : d ) ) .", "norm ((a: b): (c: d)).");
        rewritten("norm all a : b , c .", "norm all a: b, c.");
        rewritten("norm all ( a : b ) ( c : d ) , e .", "norm all (a: b) (c: d), e.");
        rewritten("axiom a ( b : ( c : d ) ) : e .", "axiom a (b: (c: d)): e.");
        rewritten("check ( a : b ) : c .", "check (a: b): c.");
        rewritten("data a : b | c : d .", "data a: b | c: d.");
        rewritten("norm d ( fun a : b => c ) .", "norm d (fun a: b => c).");
    }

    private static void behindDeclarations() {
        CHECKS.about("behind each declaration of a text a byte 10 (none behind one that is written by itself)");
        CHECKS.due("no declaration", Checks.rewritten(""), "");
        CHECKS.due("one", Checks.rewritten("norm a."), "norm a.\n");
        CHECKS.due("two", Checks.rewritten("norm a.norm b."), "norm a.\nnorm b.\n");
        CHECKS.due("one before a fault", Checks.rewritten("norm a.norm b"), "norm a.\n");
        String[] all = {"axiom a: b.", "def a: b := c.", "def a := c.", "lemma a: b := c.", "data a: b.",
            "data a: b | c: d.", "check a: b.", "check a.", "norm a."};
        for (String declaration : all) {
            TermReader reader = Checks.readerOf(declaration);
            CHECKS.due("in a text", reader.write(0, 0), declaration.length() + 1);
            CHECKS.due("its last byte", reader.written(declaration.length()), 10);
            CHECKS.due("by itself", reader.write(0, 1), declaration.length());
            CHECKS.due("itself", Checks.written(reader), declaration);
        }
        byItself("norm a. norm b.", 3, 7, "norm b.");
        byItself("norm a. norm b.", 1, 7, "norm a.");
    }

    private static void nothing() {
        CHECKS.about("NOTHING has no bytes.");
        byItself("def a := b.", 3, 19, "");
        byItself("def a (b: c) := d.", 6, 19, "");
        byItself("check a.", 3, 19, "");
        byItself("norm let a := b in c.", 4, 19, "");
        stays("def a := b.");
        stays("check a.");
        stays("norm let a := b in c.");
    }
}
