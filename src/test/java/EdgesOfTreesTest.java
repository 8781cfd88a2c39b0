/**
 * The edges of what the document says of trees and of the numbers of names, one method for each
 * sentence that names some: the fewest parts, none where there is nothing, and what comes first.
 */
public final class EdgesOfTreesTest {
    private static final Checks CHECKS = new Checks();

    public static void main(String[] args) {
        texts();
        declarations();
        partsOrNothing();
        groupsAndBinders();
        funsAndAlls();
        firstAtomsAreAppliedFirst();
        otherTerms();
        bracketsAreNoNode();
        placesOfTextsAndNothing();
        placesOfFirstParts();
        placesOfGroups();
        placesOfFirstTokens();
        valuesOfNames();
        valuesOfSorts();
        valuesOfAllOthers();
        numbersOfNodes();
        numbersOfNamesInOrder();
        namesOfAllTexts();
        namesBeforeTheFault();
        CHECKS.end();
    }

    /** The kind of a node, and those of its parts in brackets. */
    private static String kinds(TermReader reader, int k) {
        StringBuilder text = new StringBuilder().append(reader.node(0, k, 0));
        int parts = reader.node(0, k, 4);
        for (int i = 0; i < parts; i++) {
            text.append(i == 0 ? "[" : " ").append(kinds(reader, reader.part(0, k, i)));
        }
        return text.append(parts > 0 ? "]" : "").toString();
    }

    private static void kinds(String text, String want) {
        CHECKS.due("kinds of " + text, kinds(Checks.readerOf(text), 0), "0[" + want + "]");
    }

    private static void ofTerm(String term, String want) {
        kinds("norm " + term + ".", "7[" + want + "]");
    }

    /** Asks all nodes of a text for the same, in the order of their numbers. */
    private static void asked(int what, String text, int... want) {
        TermReader reader = Checks.readerOf(text);
        CHECKS.due("nodes of " + text, reader.nodes(0), want.length);
        for (int k = 0; k < want.length; k++) {
            CHECKS.due("node(0, " + k + ", " + what + ") of " + text, reader.node(0, k, what), want[k]);
        }
    }

    private static void places(String text, int... want) {
        asked(1, text, want);
    }

    private static void values(String text, int... want) {
        asked(2, text, want);
    }

    private static void names(TermReader reader, String want) {
        CHECKS.due("names", Checks.allNames(reader), want);
    }

    private static void texts() {
        CHECKS.about("0 a text: its declarations.");
        CHECKS.due("an empty text", kinds(Checks.readerOf(""), 0), "0");
        CHECKS.due("a text of blanks", kinds(Checks.readerOf(" -- a"), 0), "0");
        CHECKS.due("a text of a fault", kinds(Checks.readerOf("norm a"), 0), "0");
        kinds("norm a.", "7[16]");
        kinds("norm a. check b. norm c.", "7[16] 6[16 19] 7[16]");
        kinds("norm a. check b. norm", "7[16] 6[16 19]");
        TermReader reader = Checks.readerOf("norm a.".repeat(1142));
        CHECKS.due("parts of many declarations", reader.node(0, 0, 4), 1142);
        CHECKS.due("the last one", reader.part(0, 0, 1141), 2283);
        CHECKS.due("none behind it", reader.part(0, 0, 1142), -1);
    }

    private static void declarations() {
        CHECKS.about("1 axiom: BINDER, GROUPs, TERM. 2 def: .. 3 lemma: .. 4 data: .. 5 constructor: BINDER, TERM.");
        kinds("axiom a: b.", "1[9 16]");
        kinds("axiom a (b: c): d.", "1[9 8[9 16] 16]");
        kinds("axiom a (b: c) (d: e): f.", "1[9 8[9 16] 8[9 16] 16]");
        kinds("def a: b := Prop.", "2[9 16 17]");
        kinds("def a (b: c): d := Prop.", "2[9 8[9 16] 16 17]");
        kinds("lemma a: b := Prop.", "3[9 16 17]");
        kinds("lemma a (b: c) (d: e): f := Prop.", "3[9 8[9 16] 8[9 16] 16 17]");
        kinds("data a: b.", "4[9 16]");
        kinds("data a: b | c: Prop.", "4[9 16 5[9 17]]");
        kinds("data a (b: c): d | e: Prop | f: g.", "4[9 8[9 16] 16 5[9 17] 5[9 16]]");
        kinds("check a: Prop.", "6[16 17]");
        kinds("norm a.", "7[16]");
    }

    private static void partsOrNothing() {
        CHECKS.about("2 def: .., the first TERM or NOTHING .. 6 check: TERM, another one or NOTHING .. 12 let: BINDER, a TERM or NOTHING");
        kinds("def a := b.", "2[9 19 16]");
        kinds("def a: Prop := b.", "2[9 17 16]");
        kinds("def a (b: c) := d.", "2[9 8[9 16] 19 16]");
        kinds("check a.", "6[16 19]");
        kinds("check a: Prop.", "6[16 17]");
        ofTerm("let a := b in c", "12[9 19 16 16]");
        ofTerm("let a: Prop := b in c", "12[9 17 16 16]");
    }

    private static void groupsAndBinders() {
        CHECKS.about("8 a GROUP: BINDERs, TERM. 9 a BINDER: a name that is given.");
        kinds("axiom a (b: c): d.", "1[9 8[9 16] 16]");
        kinds("axiom a (b c: d): e.", "1[9 8[9 9 16] 16]");
        kinds("axiom a (b c d: e f): g.", "1[9 8[9 9 9 14[16 16]] 16]");
    }

    private static void funsAndAlls() {
        CHECKS.about("10 fun, 11 all: GROUPs, TERM.");
        ofTerm("fun a: b => c", "10[8[9 16] 16]");
        ofTerm("fun a b: c => d", "10[8[9 9 16] 16]");
        ofTerm("fun (a: b) => c", "10[8[9 16] 16]");
        ofTerm("fun (a: b) (c: d) => e", "10[8[9 16] 8[9 16] 16]");
        ofTerm("all a: b, c", "11[8[9 16] 16]");
        ofTerm("all (a: b), c", "11[8[9 16] 16]");
        ofTerm("all (a: b) (c d: e), f", "11[8[9 16] 8[9 9 16] 16]");
    }

    private static void firstAtomsAreAppliedFirst() {
        CHECKS.about("14 an application of one term to one: both; of more than two atoms the first ones are applied first.");
        ofTerm("a", "16");
        ofTerm("a Prop", "14[16 17]");
        ofTerm("a b Prop", "14[14[16 16] 17]");
        ofTerm("a b c Prop", "14[14[14[16 16] 16] 17]");
        ofTerm("a (b Prop)", "14[16 14[16 17]]");
        ofTerm("(a b) Prop", "14[14[16 16] 17]");
        ofTerm("a b -> c d", "13[14[16 16] 14[16 16]]");
        ofTerm("rec a Prop b", "14[18[16 17] 16]");
        ofTerm("b rec a Prop", "14[16 18[16 17]]");
    }

    private static void otherTerms() {
        CHECKS.about("13 A -> B: both. 15 ( T : U ): both. 16 a NAME. 17 a SORT. 18 rec: NAME, SORT. 19 NOTHING.");
        ofTerm("a -> Prop", "13[16 17]");
        ofTerm("a -> b -> Prop", "13[16 13[16 17]]");
        ofTerm("(a -> b) -> Prop", "13[13[16 16] 17]");
        ofTerm("(a: Prop)", "15[16 17]");
        ofTerm("(a: (b: Prop))", "15[16 15[16 17]]");
        ofTerm("Prop", "17");
        ofTerm("Type", "17");
        ofTerm("rec a Type1", "18[16 17]");
    }

    private static void bracketsAreNoNode() {
        CHECKS.about("A ( TERM ) is its term.");
        ofTerm("(a)", "16");
        ofTerm("(".repeat(99) + "a" + ")".repeat(99), "16");
        ofTerm("((a: b))", "15[16 16]");
        ofTerm("(a -> b)", "13[16 16]");
        kinds("check (a): (b).", "6[16 16]");
        kinds("check (a: b).", "6[15[16 16] 19]");
        places("norm ((a)).", -1, 0, 7);
        asked(3, "norm ((a)).", 3, 2, 1);
    }

    private static void placesOfTextsAndNothing() {
        CHECKS.about("Places: of 0 and 19 -1");
        places("", -1);
        places(" norm a.", -1, 1, 6);
        places("check a.", -1, 0, 6, -1);
        places("def a := b.", -1, 0, 4, -1, 9);
        places("norm let a := b in c.", -1, 0, 5, 9, -1, 14, 19);
    }

    private static void placesOfFirstParts() {
        CHECKS.about("of 13 and 14 that of the first part");
        places("norm a -> b.", -1, 0, 5, 5, 10);
        places("norm a b.", -1, 0, 5, 5, 7);
        places("norm a b c.", -1, 0, 5, 5, 5, 7, 9);
        places("norm (a) b.", -1, 0, 6, 6, 9);
        places("norm ((a) b) -> c.", -1, 0, 7, 7, 7, 10, 16);
        places("norm (a: b) c.", -1, 0, 5, 5, 6, 9, 12);
        places("norm (a -> b) -> c.", -1, 0, 6, 6, 6, 11, 17);
        places("norm rec a Prop b.", -1, 0, 5, 5, 9, 11, 16);
    }

    private static void placesOfGroups() {
        CHECKS.about("of a group without brackets that of its first name");
        places("norm fun   a b: c => d.", -1, 0, 5, 11, 11, 13, 16, 21);
        places("norm all   a: b, c.", -1, 0, 5, 11, 11, 14, 17);
        places("norm fun   ( a b: c) => d.", -1, 0, 5, 11, 13, 15, 18, 24);
        places("norm all (a: b) ( c: d), e.", -1, 0, 5, 9, 10, 13, 16, 18, 21, 25);
        places("axiom a ( b: c): d.", -1, 0, 6, 8, 10, 13, 17);
    }

    private static void placesOfFirstTokens() {
        CHECKS.about("of all others that of their first token");
        places("  axiom  a: b.", -1, 2, 9, 12);
        places("{--}def a: b := c.", -1, 4, 8, 11, 16);
        places("--\nlemma a: b := c.", -1, 3, 9, 12, 17);
        places("data a: b |  c: d|e: f.", -1, 0, 5, 8, 10, 13, 16, 17, 18, 21);
        places("check  (a: b).", -1, 0, 7, 8, 11, -1);
        places("norm  ( (a: b) ).", -1, 0, 8, 9, 12);
        places("norm  let a: b := c in d.", -1, 0, 6, 10, 13, 18, 23);
        places("norm  rec  a  Type12.", -1, 0, 6, 11, 14);
        places("norm a." + " ".repeat(7986) + "norm b.", -1, 0, 5, 7993, 7998);
    }

    private static void valuesOfNames() {
        CHECKS.about("Values: of 9 and 16 the number of the name");
        values("norm a.", 0, 0, 0);
        values("norm a b a.", 0, 0, 0, 0, 0, 1, 0);
        values("axiom a (b c: a): c.", 0, 0, 0, 0, 1, 2, 0, 2);
        values("norm rec b Prop.", 0, 0, 0, 0, 0);
        values("norm let a := b in a.", 0, 0, 0, 0, 0, 1, 0);
    }

    private static void valuesOfSorts() {
        CHECKS.about("of 17 0 for Prop, 1 and its digits for Type");
        values("norm Prop.", 0, 0, 0);
        values("norm Type.", 0, 0, 1);
        for (int number = 0; number <= 99; number++) {
            values("norm Type" + number + ".", 0, 0, 1 + number);
        }
        values("norm a rec a Type99.", 0, 0, 0, 0, 0, 0, 100);
    }

    private static void valuesOfAllOthers() {
        CHECKS.about("of all others 0");
        String text = "norm p q. data a (b: c): d | e: f. axiom g: h. def i := j. lemma k: l := m. check n: o. "
                + "norm fun r: s => all t: u, let v := w in (x: y) -> rec z Type7.";
        TermReader reader = Checks.readerOf(text);
        CHECKS.due("fault", reader.fault(), -1);
        for (int k = 0; k < reader.nodes(0); k++) {
            int kind = reader.node(0, k, 0);
            if (kind != 9 && kind != 16 && kind != 17) {
                CHECKS.due("value of kind " + kind, reader.node(0, k, 2), 0);
            }
        }
    }

    private static void numbersOfNodes() {
        CHECKS.about("Nodes are numbered from 0, the text, each one before its parts, and all that is in a part before the next part.");
        asked(0, "", 0);
        asked(0, "norm a.", 0, 7, 16);
        asked(0, "norm a Prop -> b. check c.", 0, 7, 13, 14, 16, 17, 16, 6, 16, 19);
        asked(0, "norm (a: Prop) (b c).", 0, 7, 14, 15, 16, 17, 14, 16, 16);
        asked(0, "data a (b c: d) (e: f): g | h: i -> a | j: k.",
                0, 4, 9, 8, 9, 9, 16, 8, 9, 16, 16, 5, 9, 13, 16, 16, 5, 9, 16);
        TermReader reader = Checks.readerOf("norm a->(b c)->d. data a (b c: d): e | f: g. norm h.");
        for (int k = 0; k < reader.nodes(0); k++) {
            int next = k + 1;
            for (int i = 0; i < reader.node(0, k, 4); i++) {
                CHECKS.due("part(0, " + k + ", " + i + ")", reader.part(0, k, i), next);
                CHECKS.due("its whole", reader.whole(0, next), k);
                next += reader.node(0, next, 3);
            }
            CHECKS.due("node(0, " + k + ", 3)", reader.node(0, k, 3), next - k);
        }
    }

    private static void numbersOfNamesInOrder() {
        CHECKS.about("NAMES have numbers from 0 in the order in which they come first");
        names(Checks.readerOf("norm Prop."), "");
        names(Checks.readerOf("norm z."), "z");
        names(Checks.readerOf("norm b a b."), "b a");
        names(Checks.readerOf("data n (x y: A): B | z: n -> rec R Prop | s: x."), "n x y A B z R s");
        names(Checks.readerOf("norm fun f: g => let l: t := v in (u: w) h -> i."), "f g l t v u w h i");
        names(Checks.readerOf("norm a aa aaa A a' aA Aa."), "a aa aaa A a' aA Aa");
    }

    private static void namesOfAllTexts() {
        CHECKS.about("in all texts that were read");
        TermReader reader = Checks.readerOf("norm b a.");
        Checks.read(reader, 1, "norm c b d.");
        names(reader, "b a c d");
        Checks.read(reader, 0, "norm e a.");
        names(reader, "b a c d e");
        CHECKS.due("number of a", reader.node(0, 4, 2), 1);
        reader.read(0, 0);
        reader.read(1, 0);
        names(reader, "b a c d e");
        Checks.feed(reader, "norm f.");
        names(reader, "b a c d e");
        reader.read(2, 7);
        reader.read(0, 21);
        names(reader, "b a c d e");
        reader.read(0, 7);
        names(reader, "b a c d e f");
    }

    private static void namesBeforeTheFault() {
        CHECKS.about("in declarations before the fault");
        names(Checks.readerOf("norm a. norm b c."), "a b c");
        names(Checks.readerOf("norm a. norm b c"), "a");
        names(Checks.readerOf("norm a. norm b c)."), "a");
        names(Checks.readerOf("norm a. norm b. )"), "a b");
        names(Checks.readerOf("norm a. norm b. c"), "a b");
        names(Checks.readerOf("norm a. ) norm b."), "a");
        names(Checks.readerOf("norm a"), "");
        TermReader reader = Checks.readerOf("norm a b c d e f g");
        names(reader, "");
        Checks.read(reader, 0, "norm c. norm b");
        names(reader, "c");
        Checks.read(reader, 1, "norm b c a.");
        names(reader, "c b a");
        CHECKS.due("number of c", reader.node(1, 5, 2), 0);
    }
}
