/** Promises 9 and 10: names and spelt. */
public final class NamesTest {
    private static final Checks CHECKS = new Checks();

    public static void main(String[] args) {
        order();
        onlyBeforeTheFault();
        longestName();
        noSuchByte();
        mostNames();
        knownNamesAreFound();
        againBringsNoNames();
        CHECKS.end();
    }

    private static void names(TermReader reader, String... want) {
        CHECKS.due("names", reader.names(), want.length);
        for (int i = 0; i < want.length; i++) {
            CHECKS.due("name " + i, Checks.spelt(reader, i), want[i]);
        }
    }

    private static void order() {
        TermReader reader = new TermReader();
        Checks.read(reader, 0, "data n (x y: A): B | z: n -> rec R Prop | s: x.");
        names(reader, "n", "x", "y", "A", "B", "z", "R", "s");
        Checks.read(reader, 1, "norm fun B: C => let d: e' := f in (n: g_).");
        names(reader, "n", "x", "y", "A", "B", "z", "R", "s", "C", "d", "e'", "f", "g_");
        CHECKS.due("an old name", reader.node(1, 4, 2), 4);
        CHECKS.due("a new name", reader.node(1, 5, 2), 8);
        Checks.read(reader, 0, "");
        CHECKS.due("names stay without a tree", reader.names(), 13);
    }

    private static void onlyBeforeTheFault() {
        TermReader reader = new TermReader();
        Checks.read(reader, 0, "norm a. norm b c # d. norm e.");
        names(reader, "a");
        Checks.read(reader, 0, "norm c. norm b");
        names(reader, "a", "c");
        Checks.read(reader, 0, "norm b b a c d c.");
        names(reader, "a", "c", "b", "d");
        CHECKS.due("read(2, 0)", reader.read(2, 0), -1);
        names(reader, "a", "c", "b", "d");
    }

    private static void longestName() {
        TermReader reader = new TermReader();
        String name = "Z'_9".repeat(10);
        Checks.read(reader, 0, "norm " + name + ". norm " + name + "Z.");
        CHECKS.due("name of 40 bytes", Checks.spelt(reader, 0), name);
        CHECKS.due("its last byte", reader.spelt(0, 39), (int) '9');
        CHECKS.due("none behind it", reader.spelt(0, 40), -1);
        CHECKS.due("no name of 41 bytes", reader.names(), 1);
        CHECKS.due("it is the fault", reader.fault(), 52);
    }

    private static void noSuchByte() {
        TermReader reader = new TermReader();
        Checks.read(reader, 0, "norm ab c.");
        int[] far = {Integer.MIN_VALUE, -1, 2, 3, Integer.MAX_VALUE};
        for (int i : far) {
            CHECKS.due("spelt(0, " + i + ")", reader.spelt(0, i), -1);
            CHECKS.due("spelt(" + i + ", 0)", reader.spelt(i, 0), -1);
        }
        CHECKS.due("spelt(0, 1)", reader.spelt(0, 1), (int) 'b');
        CHECKS.due("spelt(1, 1)", reader.spelt(1, 1), -1);
    }

    /** As many names as 512 calls can bring, and nearly as many bytes. */
    private static void mostNames() {
        String firsts = "abcdefghijklmnopqrstuvwxyzABCDEFGHIJKLMNOPQRSTUVWXYZ_";
        String others = firsts + "0123456789'";
        TermReader reader = new TermReader();
        int known = 0;
        int next = 0;
        for (int texts = 0; texts < 3; texts++) {
            StringBuilder text = new StringBuilder("norm");
            for (; text.length() < 3336 && next < firsts.length() * others.length(); next++) {
                String name = "" + firsts.charAt(next % 53) + others.charAt(next / 53);
                if (!name.equals("in")) {
                    text.append(' ').append(name);
                    known++;
                }
            }
            CHECKS.due("read many", Checks.read(reader, 0, text.append('.').toString()), 1);
            CHECKS.due("names", reader.names(), known);
        }
        CHECKS.due("a last one", reader.node(0, reader.nodes(0) - 1, 2), known - 1);
    }

    /** So many names, of one to three bytes, that some are alike in whatever they are sought by. */
    private static void knownNamesAreFound() {
        String letters = "abcdefghijklmnopqrstuvwxyzABCDEFGHIJKLMNOPQRSTUVWXYZ_";
        StringBuilder text = new StringBuilder("norm");
        int known = 0;
        for (int i = 0; i < 53; i++) {
            char letter = letters.charAt(i);
            text.append(' ').append(letter);
            known++;
            for (int j = 0; j < 15; j++) {
                text.append(" ").append(letter).append(letters.charAt((i + 11 * j) % 53));
                text.append(" A").append(letter).append(letters.charAt((7 * i + 5 * j) % 53));
                known += 2;
            }
        }
        text.append(".");
        TermReader reader = new TermReader();
        CHECKS.due("read names", Checks.read(reader, 0, text.toString()), 1);
        CHECKS.due("names", reader.names(), known);
        CHECKS.due("write them", reader.write(0, 1), text.length());
        CHECKS.due("again", reader.again(), text.length());
        CHECKS.due("read them", reader.read(1, text.length()), 1);
        CHECKS.due("the same names", reader.names(), known);
        CHECKS.due("the same tree", reader.same(), true);
        int firstName = 2 + known - 1;
        for (int i = 0; i < known; i += 29) {
            CHECKS.due("number of name " + i, reader.node(1, firstName + i, 2), i);
        }
    }

    private static void againBringsNoNames() {
        TermReader reader = new TermReader();
        Checks.read(reader, 0, "norm ab Type.");
        reader.write(0, 0);
        reader.again();
        CHECKS.due("read again", reader.read(1, 15), 1);
        reader.write(0, 3);
        CHECKS.due("again a name alone", reader.again(), 2);
        CHECKS.due("feed behind it", Checks.feed(reader, "c. norm d."), 22);
        CHECKS.due("read what is no declaration", reader.read(1, 12), 0);
        CHECKS.due("fault", reader.fault(), 0);
        names(reader, "ab");
    }
}
