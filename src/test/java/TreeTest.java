/** Promises 5 to 8: nodes, node, part and whole. */
public final class TreeTest {
    private static final Checks CHECKS = new Checks();

    public static void main(String[] args) {
        declarations();
        groups();
        terms();
        places();
        sorts();
        numbers();
        noSuchNode();
        manyParts();
        CHECKS.end();
    }

    private static void shape(String text, String want) {
        TermReader reader = new TermReader();
        Checks.read(reader, 1, text);
        CHECKS.due("shape of " + text, Checks.shape(reader, 1, 1), want);
    }

    private static void declarations() {
        shape("axiom a: b.", "1@0=0[9@6=0 16@9=1]");
        shape("axiom a (b: c): d.", "1@0=0[9@6=0 8@8=0[9@9=1 16@12=2] 16@16=3]");
        shape("def a: b := c.", "2@0=0[9@4=0 16@7=1 16@12=2]");
        shape("def a := b.", "2@0=0[9@4=0 19@-1=0 16@9=1]");
        shape("def a (b: c) := d.", "2@0=0[9@4=0 8@6=0[9@7=1 16@10=2] 19@-1=0 16@16=3]");
        shape("lemma a: b := c.", "3@0=0[9@6=0 16@9=1 16@14=2]");
        shape("data a: b.", "4@0=0[9@5=0 16@8=1]");
        shape("data a: b | c: a.", "4@0=0[9@5=0 16@8=1 5@10=0[9@12=2 16@15=0]]");
        shape("data a (b: c): d |e: f|g: h.", "4@0=0[9@5=0 8@7=0[9@8=1 16@11=2] 16@15=3"
                + " 5@17=0[9@18=4 16@21=5] 5@22=0[9@23=6 16@26=7]]");
        shape("check a.", "6@0=0[16@6=0 19@-1=0]");
        shape("check a: b.", "6@0=0[16@6=0 16@9=1]");
        shape("  norm a.", "7@2=0[16@7=0]");
    }

    private static void groups() {
        shape("axiom a (b c d: e) (f: g): h.", "1@0=0[9@6=0 8@8=0[9@9=1 9@11=2 9@13=3 16@16=4]"
                + " 8@19=0[9@20=5 16@23=6] 16@27=7]");
        shape("norm fun  a b: c => d.", "7@0=0[10@5=0[8@10=0[9@10=0 9@12=1 16@15=2] 16@20=3]]");
        shape("norm fun  (a b: c) => d.", "7@0=0[10@5=0[8@10=0[9@11=0 9@13=1 16@16=2] 16@22=3]]");
        shape("norm all (a: b) (c: d), e.", "7@0=0[11@5=0[8@9=0[9@10=0 16@13=1]"
                + " 8@16=0[9@17=2 16@20=3] 16@24=4]]");
    }

    private static void terms() {
        shape("norm let a: b := c in d.", "7@0=0[12@5=0[9@9=0 16@12=1 16@17=2 16@22=3]]");
        shape("norm let a := b in c.", "7@0=0[12@5=0[9@9=0 19@-1=0 16@14=1 16@19=2]]");
        shape("norm a -> b -> c.", "7@0=0[13@5=0[16@5=0 13@10=0[16@10=1 16@15=2]]]");
        shape("norm a b c.", "7@0=0[14@5=0[14@5=0[16@5=0 16@7=1] 16@9=2]]");
        shape("norm a (b c).", "7@0=0[14@5=0[16@5=0 14@8=0[16@8=1 16@10=2]]]");
        shape("norm a b -> c d.", "7@0=0[13@5=0[14@5=0[16@5=0 16@7=1] 14@12=0[16@12=2 16@14=3]]]");
        shape("norm (a: b).", "7@0=0[15@5=0[16@6=0 16@9=1]]");
        shape("norm rec a Type3.", "7@0=0[18@5=0[16@9=0 17@11=4]]");
        shape("norm fun a: b => c d -> e.", "7@0=0[10@5=0[8@9=0[9@9=0 16@12=1]"
                + " 13@17=0[14@17=0[16@17=2 16@19=3] 16@24=4]]]");
    }

    private static void places() {
        shape("norm (a).", "7@0=0[16@6=0]");
        shape("norm ((a)) b.", "7@0=0[14@7=0[16@7=0 16@11=1]]");
        shape("norm (a b) c.", "7@0=0[14@6=0[14@6=0[16@6=0 16@8=1] 16@11=2]]");
        shape("norm (a -> b) -> c.", "7@0=0[13@6=0[13@6=0[16@6=0 16@11=1] 16@17=2]]");
        shape("norm ((a: b)) c.", "7@0=0[14@6=0[15@6=0[16@7=0 16@10=1] 16@14=2]]");
        shape("norm (fun a: b => c) d.", "7@0=0[14@6=0[10@6=0[8@10=0[9@10=0 16@13=1] 16@18=2] 16@21=3]]");
        shape("{-x-}norm{-y-}--z\na.", "7@5=0[16@18=0]");
    }

    private static void sorts() {
        String[] sorts = {"Prop", "Type", "Type0", "Type1", "Type9", "Type10", "Type42", "Type99"};
        int[] values = {0, 1, 1, 2, 10, 11, 43, 100};
        for (int i = 0; i < sorts.length; i++) {
            shape("norm " + sorts[i] + ".", "7@0=0[17@5=" + values[i] + "]");
        }
        for (String name : new String[] {"Type00", "Type09", "Type100", "Type1a", "Type_", "Prop0"}) {
            shape("norm " + name + ".", "7@0=0[16@5=0]");
        }
    }

    private static void numbers() {
        TermReader reader = new TermReader();
        Checks.read(reader, 0, "norm a b c. def d (e f: g): h := i.");
        int[] kinds = {0, 7, 14, 14, 16, 16, 16, 2, 9, 8, 9, 9, 16, 16, 16};
        int[] sizes = {15, 6, 5, 3, 1, 1, 1, 8, 1, 4, 1, 1, 1, 1, 1};
        int[] wholes = {-1, 0, 1, 2, 3, 3, 2, 0, 7, 7, 9, 9, 9, 7, 7};
        int[] parts = {2, 1, 2, 2, 0, 0, 0, 4, 0, 3, 0, 0, 0, 0, 0};
        CHECKS.due("nodes", reader.nodes(0), kinds.length);
        for (int k = 0; k < kinds.length; k++) {
            CHECKS.due("kind of " + k, reader.node(0, k, 0), kinds[k]);
            CHECKS.due("size of " + k, reader.node(0, k, 3), sizes[k]);
            CHECKS.due("parts of " + k, reader.node(0, k, 4), parts[k]);
            CHECKS.due("whole of " + k, reader.whole(0, k), wholes[k]);
        }
        int[] partsOfDef = {8, 9, 13, 14, -1};
        for (int i = 0; i < partsOfDef.length; i++) {
            CHECKS.due("part " + i + " of 7", reader.part(0, 7, i), partsOfDef[i]);
        }
    }

    private static void noSuchNode() {
        TermReader reader = new TermReader();
        Checks.read(reader, 0, "norm a.");
        int[] far = {Integer.MIN_VALUE, -2, -1, 3, 4, 8001, Integer.MAX_VALUE};
        for (int k : far) {
            CHECKS.due("node " + k, reader.node(0, k, 0), -1);
            CHECKS.due("part of " + k, reader.part(0, k, 0), -1);
            CHECKS.due("part " + k, reader.part(0, 1, k), -1);
            CHECKS.due("whole of " + k, reader.whole(0, k), -1);
            CHECKS.due("nodes of tree " + (k == 3 ? 2 : k), reader.nodes(k == 3 ? 2 : k), -1);
            CHECKS.due("node of tree " + k, reader.node(k, 0, 0), -1);
            CHECKS.due("part of tree " + k, reader.part(k, 0, 0), -1);
            CHECKS.due("whole of tree " + k, reader.whole(k, 0), -1);
        }
        for (int what : new int[] {Integer.MIN_VALUE, -1, 5, Integer.MAX_VALUE}) {
            CHECKS.due("what " + what, reader.node(0, 0, what), -1);
        }
        CHECKS.due("part of a name", reader.part(0, 2, 0), -1);
        CHECKS.due("whole of 1", reader.whole(0, 1), 0);
        CHECKS.due("whole of 2", reader.whole(0, 2), 1);
    }

    private static void manyParts() {
        TermReader reader = new TermReader();
        String text = "norm " + "a ".repeat(3997) + ".";
        CHECKS.due("read 8000 bytes", Checks.read(reader, 0, text), 1);
        CHECKS.due("nodes of 3997 atoms", reader.nodes(0), 2 + 2 * 3997 - 1);
        CHECKS.due("size of them", reader.node(0, 2, 3), 2 * 3997 - 1);
        CHECKS.due("the first one", reader.node(0, 2 + 3996, 1), 5);
        CHECKS.due("its whole", reader.whole(0, 2 + 3996), 2 + 3995);
        CHECKS.due("the last one", reader.part(0, 2, 1), reader.nodes(0) - 1);
        text = "axiom a (" + "b ".repeat(3000) + ": c): d.";
        CHECKS.due("read 3000 binders", Checks.read(reader, 0, text), 1);
        CHECKS.due("parts of the group", reader.node(0, 3, 4), 3001);
        CHECKS.due("its last part", reader.part(0, 3, 3000), 3004);
        CHECKS.due("no part behind it", reader.part(0, 3, 3001), -1);
    }
}
