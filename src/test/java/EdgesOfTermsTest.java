import java.util.List;

/**
 * The edges of declarations and terms, of how deep a term lies, and of the fault, one method for each
 * sentence that names some: the last token that it lets through, and the first that it does not.
 */
public final class EdgesOfTermsTest {
    private static final Checks CHECKS = new Checks();
    private static final List<String> TOKENS = List.of("axiom", "def", "lemma", "data", "check", "norm", "fun",
            "all", "let", "in", "rec", "Prop", "Type", "Type42", "x", "(", ")", ":", ":=", "=>", "->", ",", ".", "|");
    private static final String DECLARATION = " axiom def lemma data check norm ";
    private static final String ATOM = " x Prop Type Type42 rec ( ";
    private static final String TERM = ATOM + "fun all let ";
    private static final String MORE = ATOM + "-> ";

    public static void main(String[] args) {
        declarationsOneBehindTheOther();
        axioms();
        defs();
        lemmas();
        data();
        checksAndNorms();
        groups();
        manyGroups();
        groupsHaveNames();
        funsAndAlls();
        lets();
        arrows();
        binders();
        applications();
        atoms();
        sorts();
        termsThatEndOthers();
        termsOneDeeper();
        termsInNoOther();
        firstTokenAtFault();
        firstByteWithoutAToken();
        endWithinADeclaration();
        firstOfAllFaults();
        CHECKS.end();
    }

    /** Tries every token behind the beginning of a text: those that go on, and all others, the fault. */
    private static void goesOn(String beginning, String with) {
        for (String token : TOKENS) {
            String text = beginning + " " + token;
            TermReader reader = Checks.readerOf(text);
            boolean declarationEnds = token.equals(".");
            int fault = !with.contains(" " + token + " ") ? beginning.length() + 1
                    : declarationEnds ? -1 : text.length();
            CHECKS.due("fault of " + text, reader.fault(), fault);
        }
    }

    private static void declarationsOneBehindTheOther() {
        CHECKS.about("A text is DECLARATIONs, one behind the other, each with its end, which is a sign");
        goesOn("", DECLARATION);
        for (String declaration : new String[] {"axiom a: b", "def a: b := c", "def a := b", "lemma a: b := c",
            "data a: b", "data a: b | c: d", "check a: b", "check a", "norm a"}) {
            goesOn(declaration + ".", DECLARATION);
            CHECKS.reads(declaration, 0, declaration.length());
            CHECKS.reads(declaration + ".", 1, -1);
            CHECKS.reads(declaration + "..", 1, declaration.length() + 1);
            CHECKS.reads(declaration + " norm a.", 0, declaration.length() + 1);
            CHECKS.reads(declaration + ". norm a.", 2, -1);
        }
        CHECKS.reads("norm a.".repeat(1142) + "     .", 1142, 7999);
    }

    private static void axioms() {
        CHECKS.about("axiom NAME GROUPS : TERM .");
        goesOn("axiom", " x ");
        goesOn("axiom a", " ( : ");
        goesOn("axiom a (b: c)", " ( : ");
        goesOn("axiom a:", TERM);
        goesOn("axiom a: b", MORE + ". ");
    }

    private static void defs() {
        CHECKS.about("def NAME GROUPS : TERM := TERM . def NAME GROUPS := TERM .");
        goesOn("def", " x ");
        goesOn("def a", " ( : := ");
        goesOn("def a (b: c)", " ( : := ");
        goesOn("def a:", TERM);
        goesOn("def a: b", MORE + ":= ");
        goesOn("def a :=", TERM);
        goesOn("def a := b", MORE + ". ");
        goesOn("def a: b :=", TERM);
        goesOn("def a: b := c", MORE + ". ");
    }

    private static void lemmas() {
        CHECKS.about("lemma NAME GROUPS : TERM := TERM .");
        goesOn("lemma", " x ");
        goesOn("lemma a", " ( : ");
        goesOn("lemma a (b: c)", " ( : ");
        goesOn("lemma a:", TERM);
        goesOn("lemma a: b", MORE + ":= ");
        goesOn("lemma a: b :=", TERM);
        goesOn("lemma a: b := c", MORE + ". ");
    }

    private static void data() {
        CHECKS.about("data NAME GROUPS : TERM CONSTRUCTORS . (any number, 0 too, of CONSTRUCTORs: | NAME : TERM)");
        goesOn("data", " x ");
        goesOn("data a", " ( : ");
        goesOn("data a (b: c)", " ( : ");
        goesOn("data a:", TERM);
        goesOn("data a: b", MORE + "| . ");
        goesOn("data a: b |", " x ");
        goesOn("data a: b | c", " : ");
        goesOn("data a: b | c:", TERM);
        goesOn("data a: b | c: d", MORE + "| . ");
        goesOn("data a: b | c: d |", " x ");
        int[] counts = {0, 1, 2, 3, 1997};
        for (int count : counts) {
            TermReader reader = Checks.readerOf("data a:b" + "|c:d".repeat(count) + ".");
            CHECKS.due("fault of " + count + " constructors", reader.fault(), -1);
            CHECKS.due("parts", reader.node(0, 1, 4), 2 + count);
            CHECKS.due("nodes", reader.nodes(0), 4 + 3 * count);
        }
    }

    private static void checksAndNorms() {
        CHECKS.about("check TERM : TERM . check TERM . norm TERM .");
        goesOn("check", TERM);
        goesOn("check a", MORE + ": . ");
        goesOn("check a:", TERM);
        goesOn("check a: b", MORE + ". ");
        goesOn("norm", TERM);
        goesOn("norm a", MORE + ". ");
    }

    private static void groups() {
        CHECKS.about("a GROUP is ( NAMES : TERM )");
        String[] before = {"axiom a", "def a", "lemma a", "data a", "norm fun", "norm all", "axiom a (b: c)",
            "norm fun (a: b)"};
        for (String beginning : before) {
            goesOn(beginning + " (", " x ");
            goesOn(beginning + " (d", " x : ");
            goesOn(beginning + " (d e", " x : ");
            goesOn(beginning + " (d:", TERM);
            goesOn(beginning + " (d: e", MORE + ") ");
        }
    }

    private static void manyGroups() {
        CHECKS.about("GROUPS are any number (0, too) of GROUPs");
        String[] before = {"axiom a", "def a", "lemma a", "data a"};
        String[] behind = {":b.", ":=b.", ":b:=c.", ":b."};
        int[] fixedParts = {2, 3, 3, 2};
        for (int i = 0; i < before.length; i++) {
            for (int count : new int[] {0, 1, 2, 3, 1597}) {
                TermReader reader = Checks.readerOf(before[i] + "(c:d)".repeat(count) + behind[i]);
                CHECKS.due("fault of " + before[i] + " with " + count + " groups", reader.fault(), -1);
                CHECKS.due("parts", reader.node(0, 1, 4), fixedParts[i] + count);
            }
        }
    }

    private static void groupsHaveNames() {
        CHECKS.about("NAMES are one NAME or more");
        CHECKS.reads("axiom a (: b): c.", 0, 9);
        CHECKS.reads("norm fun : b => c.", 0, 9);
        CHECKS.reads("norm all : b, c.", 0, 9);
        for (int count : new int[] {1, 2, 3, 3990}) {
            TermReader reader = Checks.readerOf("axiom a(" + "b ".repeat(count) + ":c):d.");
            CHECKS.due("fault of " + count + " names", reader.fault(), -1);
            CHECKS.due("parts", reader.node(0, 3, 4), count + 1);
            reader = Checks.readerOf("norm fun " + "b ".repeat(count) + ":c=>d.");
            CHECKS.due("fault of " + count + " names without brackets", reader.fault(), -1);
            CHECKS.due("parts", reader.node(0, 3, 4), count + 1);
        }
    }

    private static void funsAndAlls() {
        CHECKS.about("fun BINDERS => TERM all BINDERS , TERM");
        String[] words = {"fun", "all"};
        String[] signs = {"=>", ","};
        for (int i = 0; i < 2; i++) {
            String beginning = "norm " + words[i];
            goesOn(beginning, " x ( ");
            goesOn(beginning + " a: b", MORE + signs[i] + " ");
            goesOn(beginning + " (a: b)", " ( " + signs[i] + " ");
            goesOn(beginning + " a: b " + signs[i], TERM);
            goesOn(beginning + " (a: b) " + signs[i], TERM);
            goesOn(beginning + " a: b " + signs[i] + " c", MORE + ". ");
            goesOn("norm (" + words[i] + " a: b " + signs[i] + " c", MORE + ": ) ");
        }
    }

    private static void lets() {
        CHECKS.about("let NAME : TERM := TERM in TERM let NAME := TERM in TERM");
        goesOn("norm let", " x ");
        goesOn("norm let a", " : := ");
        goesOn("norm let a:", TERM);
        goesOn("norm let a: b", MORE + ":= ");
        goesOn("norm let a: b :=", TERM);
        goesOn("norm let a: b := c", MORE + "in ");
        goesOn("norm let a :=", TERM);
        goesOn("norm let a := b", MORE + "in ");
        goesOn("norm let a := b in", TERM);
        goesOn("norm let a := b in c", MORE + ". ");
        goesOn("norm let a := let b := c in d", MORE + "in ");
    }

    private static void arrows() {
        CHECKS.about("APPLICATION -> TERM APPLICATION");
        goesOn("norm a ->", TERM);
        goesOn("norm a -> b", MORE + ". ");
        goesOn("norm a b ->", TERM);
        goesOn("norm a -> b ->", TERM);
        goesOn("norm (fun a: b => c)", MORE + ". ");
        CHECKS.reads("norm fun a: b => c -> d.", 1, -1);
        CHECKS.reads("norm -> a.", 0, 5);
    }

    private static void binders() {
        CHECKS.about("BINDERS are NAMES : TERM (one GROUP without its brackets), or one GROUP or more.");
        String[] words = {"norm fun ", "norm all "};
        String[] signs = {"=>", ","};
        for (int i = 0; i < 2; i++) {
            CHECKS.reads(words[i] + signs[i] + " c.", 0, 9);
            CHECKS.reads(words[i] + "a: b (c: d) " + signs[i] + " e.", 1, -1);
            CHECKS.reads(words[i] + "a (c: d) " + signs[i] + " e.", 0, 11);
            CHECKS.reads(words[i] + "(a: b) c: d " + signs[i] + " e.", 0, 16);
            for (int count : new int[] {1, 2, 3, 1597}) {
                TermReader reader = Checks.readerOf(words[i] + "(c:d)".repeat(count) + signs[i] + "a.");
                CHECKS.due("fault of " + count + " groups", reader.fault(), -1);
                CHECKS.due("parts", reader.node(0, 2, 4), count + 1);
            }
            TermReader reader = Checks.readerOf(words[i] + "a: b (c: d) " + signs[i] + " e.");
            CHECKS.due("parts with one group", reader.node(0, 2, 4), 2);
        }
    }

    private static void applications() {
        CHECKS.about("An APPLICATION is one ATOM or more.");
        CHECKS.reads("norm .", 0, 5);
        CHECKS.reads("norm (-> a).", 0, 6);
        for (int count : new int[] {1, 2, 3, 3997}) {
            TermReader reader = Checks.readerOf("norm " + "a ".repeat(count) + ".");
            CHECKS.due("fault of " + count + " atoms", reader.fault(), -1);
            CHECKS.due("nodes", reader.nodes(0), 1 + 2 * count);
            CHECKS.due("kind", reader.node(0, 2, 0), count == 1 ? 16 : 14);
        }
        for (String atom : new String[] {"a", "Prop", "Type", "Type7", "rec a Prop", "(a: b)", "(a)"}) {
            goesOn("norm " + atom, MORE + ". ");
            goesOn("norm b " + atom, MORE + ". ");
        }
    }

    private static void atoms() {
        CHECKS.about("An ATOM is NAME, SORT, rec NAME SORT, ( TERM : TERM ) or ( TERM ).");
        goesOn("norm rec", " x ");
        goesOn("norm rec a", " Prop Type Type42 ");
        goesOn("norm rec a Prop", MORE + ". ");
        goesOn("norm (", TERM);
        goesOn("norm (a", MORE + ": ) ");
        goesOn("norm (a)", MORE + ". ");
        goesOn("norm (a:", TERM);
        goesOn("norm (a: b", MORE + ") ");
        goesOn("norm (a: b)", MORE + ". ");
    }

    private static void sorts() {
        CHECKS.about("A SORT is Prop, or Type with its digits (Type alone is Type0).");
        String[] sorts = {"Prop", "Type", "Type0", "Type1", "Type9", "Type10", "Type99"};
        int[] values = {0, 1, 1, 2, 10, 11, 100};
        for (int i = 0; i < sorts.length; i++) {
            TermReader reader = Checks.readerOf("norm " + sorts[i] + ".");
            CHECKS.due("kind of " + sorts[i], reader.node(0, 2, 0), 17);
            CHECKS.due("value of " + sorts[i], reader.node(0, 2, 2), values[i]);
        }
        for (String name : new String[] {"Type00", "Type01", "Type100", "Prop0", "prop", "type"}) {
            CHECKS.due("kind of " + name, Checks.readerOf("norm " + name + ".").node(0, 2, 0), 16);
        }
    }

    /** A text with a term in brackets, which must all be there, and one with a bracket too many. */
    private static void deepest(String before, int brackets, String behind) {
        String open = "(".repeat(brackets);
        String close = ")".repeat(brackets);
        CHECKS.reads(before + open + "x" + close + behind, 1, -1);
        CHECKS.reads(before + open + "(x)" + close + behind, 0, before.length() + brackets + 1);
    }

    private static void termsThatEndOthers() {
        CHECKS.about("A TERM that ends another one (behind => , in or ->) lies as deep as that");
        for (String form : new String[] {"fun y: z => ", "fun (y: z) (y: z) => ", "all y: z, ", "all (y: z), ",
            "let y: z := z in ", "let y := z in "}) {
            deepest("norm " + form, 99, ".");
            deepest("norm " + form.repeat(300), 99, ".");
            deepest("norm " + "(".repeat(98) + form.repeat(300), 1, ")".repeat(98) + ".");
        }
        for (String form : new String[] {"z -> ", "z z -> ", "(z) -> ", "rec z Prop -> "}) {
            deepest("norm " + form, 99, ".");
            deepest("norm " + form.repeat(500), 99, ".");
            deepest("norm " + "(".repeat(98) + form.repeat(500), 1, ")".repeat(98) + ".");
        }
        deepest("norm " + "(".repeat(99) + "z -> ".repeat(500), 0, ")".repeat(99) + ".");
        deepest("norm fun y: z => all y: z, let y := z in z -> ", 99, ".");
    }

    private static void termsOneDeeper() {
        CHECKS.about("any other TERM in a TERM lies one deeper");
        String[] before = {"(", "(", "(z: ", "z (", "(", "(", "fun y: ", "fun (y: ", "fun (y: z) (y: ", "all y: ",
            "all (y: ", "all (y: z) (y: ", "let y: ", "let y := ", "let y: z := "};
        String[] behind = {")", ": z)", ")", ")", ") z", ") -> z", " => z", ") => z", ") => z", ", z",
            "), z", "), z", " := z in z", " in z", " in z"};
        // Where the first TERM begins that is one deeper, in what stands before.
        int[] firstTerms = {1, 1, 1, 3, 1, 1, 7, 8, 8, 7, 8, 8, 7, 9, 7};
        for (int i = 0; i < before.length; i++) {
            String form = before[i] + ".." + behind[i];
            CHECKS.about("any other TERM in a TERM lies one deeper: " + form);
            String text = "norm " + before[i].repeat(99) + "x" + behind[i].repeat(99) + ".";
            CHECKS.reads(text, 1, -1);
            text = "norm " + before[i].repeat(100) + "x" + behind[i].repeat(100) + ".";
            CHECKS.reads(text, 0, 5 + 99 * before[i].length() + firstTerms[i]);
            deepest("norm " + before[i], 98, behind[i] + ".");
            deepest("norm " + before[i].repeat(98), 1, behind[i].repeat(98) + ".");
        }
    }

    private static void termsInNoOther() {
        CHECKS.about("and those that are in no other one are 1 deep");
        String[] before = {"axiom a: ", "axiom a (b: ", "axiom a (b: c) (d: ", "def a: ", "def a: b := ",
            "def a := ", "def a (b: ", "lemma a: ", "lemma a: b := ", "lemma a (b: ", "data a: ", "data a (b: ",
            "data a: b | c: ", "data a: b | c: d | e: ", "check ", "check ", "check a: ", "norm "};
        String[] behind = {".", "): c.", "): c.", " := c.", ".", ".", ") := c.", " := c.", ".", "): c := d.", ".",
            "): c.", ".", ".", ".", ": b.", ".", "."};
        for (int i = 0; i < before.length; i++) {
            deepest(before[i], 99, behind[i]);
        }
        String deep = "(".repeat(99) + "x" + ")".repeat(99);
        CHECKS.reads("data a (b: " + deep + ") (c: " + deep + "): " + deep + " | d: " + deep + " | e: " + deep + ".",
                1, -1);
        CHECKS.reads("norm " + deep + " " + deep + " -> " + deep + " -> " + deep + ".", 1, -1);
        CHECKS.reads("check " + deep + ": " + deep + ". norm " + deep + ".", 2, -1);
        TermReader reader = Checks.readerOf("norm " + "(".repeat(99) + "#");
        CHECKS.due("read behind a fault 100 deep", Checks.read(reader, 0, "norm " + deep + "."), 1);
        CHECKS.due("read 101 deep behind it", Checks.read(reader, 0, "norm (" + deep + ")."), 0);
        CHECKS.due("the fault", reader.fault(), 105);
    }

    private static void firstTokenAtFault() {
        CHECKS.about("its first token with which no text goes on, be it that it begins a TERM that is 101 deep");
        String open = "norm " + "(".repeat(99);
        for (String term : new String[] {"x", "Prop", "Type5", "rec x Prop"}) {
            CHECKS.reads(open + "  " + term, 0, 106 + term.length());
        }
        for (String term : new String[] {"x", "Prop", "Type5", "rec x Prop", "(x)", "fun x: y => z", "all x: y, z",
            "let x := y in z"}) {
            CHECKS.reads(open + "(  " + term, 0, 107);
            CHECKS.reads(open + "x: (" + term, 0, 108);
            CHECKS.reads(open + "fun y: " + term, 0, 111);
            CHECKS.reads(open + "all (y: " + term, 0, 112);
            CHECKS.reads(open + "let y: " + term, 0, 111);
            CHECKS.reads(open + "let y := " + term, 0, 113);
        }
        CHECKS.reads(open + "(", 0, 105);
        CHECKS.reads(open + "( )", 0, 106);
        CHECKS.reads(open + "fun y:", 0, 110);
        CHECKS.reads(open + "y" + ")".repeat(99) + " )", 0, 205);
        CHECKS.reads("norm " + "(".repeat(7995), 0, 105);
        CHECKS.reads("norm a b c d ) )", 0, 13);
    }

    private static void firstByteWithoutAToken() {
        CHECKS.about("or the first byte at which there is no token (also where a remark begins .., and a name of more than 40 bytes)");
        String name = "x".repeat(40);
        for (String beginning : new String[] {"", "norm ", "norm a ", "norm a. ", "def a (", "norm a -> "}) {
            for (String none : new String[] {"#", "-", "=", "{", "}", "'", "7", "\0", "\377", "{-", "{- -- \n", "{-}",
                "{-{--}", name + "x", name + name}) {
                CHECKS.reads(beginning + none, beginning.startsWith("norm a.") ? 1 : 0, beginning.length());
                CHECKS.reads(beginning + "{--} " + none + " )", beginning.startsWith("norm a.") ? 1 : 0,
                        beginning.length() + 5);
            }
        }
        CHECKS.reads("norm {--}" + name + ".", 1, -1);
    }

    private static void endWithinADeclaration() {
        CHECKS.about("or its end (the number of its bytes), when that comes within a declaration");
        String all = "data a ( b c : d ) ( e : f ) : g | h : i | j : k . axiom l : m . def n := fun o : p => q . "
                + "lemma r : all ( s : t ) ( u : v ) , w := let x : y := z in a -> b . check ( c : d ) e . "
                + "def f ( g : h ) : i := let j := k in rec l Type . check Prop : Type1 . norm ( m ) .";
        String[] tokens = all.split(" ");
        StringBuilder text = new StringBuilder();
        int declarations = 0;
        boolean within = false;
        for (String token : tokens) {
            text.append(token);
            within = !token.equals(".");
            declarations += within ? 0 : 1;
            CHECKS.reads(text.toString(), declarations, within ? text.length() : -1);
            CHECKS.reads(text + " \n\t", declarations, within ? text.length() + 3 : -1);
            CHECKS.reads(text + " {--}", declarations, within ? text.length() + 5 : -1);
            CHECKS.reads(text + " -- .", declarations, within ? text.length() + 5 : -1);
            text.append(' ');
        }
        CHECKS.due("all declarations", declarations, 8);
        CHECKS.reads("norm a" + " ".repeat(7994), 0, 8000);
        CHECKS.reads("norm a." + " ".repeat(7993), 1, -1);
    }

    private static void firstOfAllFaults() {
        CHECKS.about("THE FAULT of a text is its first token .., or the first byte .., or its end");
        CHECKS.reads("norm ) #", 0, 5);
        CHECKS.reads("norm # )", 0, 5);
        CHECKS.reads("norm a ) {-", 0, 7);
        CHECKS.reads("norm a {- )", 0, 7);
        CHECKS.reads("norm a ) ", 0, 7);
        CHECKS.reads("norm a {-", 0, 7);
        CHECKS.reads("norm a. ) #", 1, 8);
        CHECKS.reads("norm a. # )", 1, 8);
        CHECKS.reads("norm a. norm ) norm b. #", 1, 13);
        CHECKS.reads("norm " + "(".repeat(100) + "x # " + "y".repeat(41), 0, 105);
        CHECKS.reads("norm " + "(".repeat(99) + "# (x", 0, 104);
    }
}
