/**
 * The edges of what the document calls text, blanks, remarks and tokens, one method for each sentence
 * that names some: the last bytes that it lets through, and the first that it does not.
 */
public final class EdgesOfTextsTest {
    private static final Checks CHECKS = new Checks();
    private static final String[] WORDS = {"axiom", "def", "lemma", "data", "check", "norm", "fun", "all", "let",
        "in", "rec", "Prop", "Type"};

    public static void main(String[] args) {
        rowOfBytes();
        blanks();
        lineRemarks();
        remarks();
        remarksWithin();
        noByteInCommon();
        nothingElseCounts();
        remarksAreBlanks();
        longestTokens();
        firstBytesOfNames();
        otherBytesOfNames();
        longestNames();
        words();
        typesAsWords();
        signs();
        CHECKS.end();
    }

    private static boolean isLetter(int value) {
        return value >= 65 && value <= 90 || value >= 97 && value <= 122 || value == 95;
    }

    private static boolean isInName(int value) {
        return isLetter(value) || value >= 48 && value <= 57 || value == 39;
    }

    private static boolean isBlank(int value) {
        return value == 9 || value == 10 || value == 13 || value == 32;
    }

    private static void names(String text, String want) {
        CHECKS.due("names of " + text, Checks.allNames(Checks.readerOf(text)), want);
    }

    private static void rowOfBytes() {
        CHECKS.about("A TEXT is a row of bytes.");
        CHECKS.reads("", 0, -1);
        for (int value = 0; value < 256; value++) {
            CHECKS.reads("" + (char) value, 0, isBlank(value) ? -1 : 0);
        }
        CHECKS.reads(" ".repeat(8000), 0, -1);
        CHECKS.reads(" ".repeat(7999) + "\0", 0, 7999);
    }

    private static void blanks() {
        CHECKS.about("BLANKS are the bytes 9, 10, 13 and 32, and REMARKS");
        for (int value = 0; value < 256; value++) {
            String text = (char) value + "norm a.";
            if (isBlank(value)) {
                CHECKS.reads(text, 1, -1);
                names("norm a" + (char) value + "b.", "a b");
                CHECKS.reads("norm a." + (char) value, 1, -1);
            } else {
                CHECKS.reads(text, 0, 0);
                CHECKS.due("no blank " + value, Checks.allNames(Checks.readerOf("norm a" + (char) value + "b."))
                        .equals("a b"), false);
                CHECKS.reads("norm a." + (char) value, 1, 7);
            }
        }
    }

    private static void lineRemarks() {
        CHECKS.about("from -- on up to the next byte 10 or the end");
        CHECKS.reads("-", 0, 0);
        CHECKS.reads("--", 0, -1);
        CHECKS.reads("---", 0, -1);
        CHECKS.reads("- -", 0, 0);
        CHECKS.reads("-\n-", 0, 0);
        CHECKS.reads("--)", 0, -1);
        CHECKS.reads("--\n)", 0, 3);
        CHECKS.reads("--)\n)", 0, 4);
        CHECKS.reads("--\n\n)", 0, 4);
        CHECKS.reads("norm a.--", 1, -1);
        CHECKS.reads("norm a.-", 1, 7);
        CHECKS.reads("norm a--.", 0, 9);
        CHECKS.reads("norm a--.\n.", 1, -1);
        CHECKS.reads("--" + " )".repeat(3999), 0, -1);
        for (int value = 0; value < 256; value++) {
            CHECKS.reads("--" + (char) value + ")", 0, value == 10 ? 3 : -1);
        }
        TermReader reader = new TermReader();
        Checks.feed(reader, "norm a.--");
        CHECKS.due("the text ends within --", reader.read(0, 8), 1);
        CHECKS.due("so that there is no remark", reader.fault(), 7);
    }

    private static void remarks() {
        CHECKS.about("and from {- on to its -}");
        CHECKS.reads("{", 0, 0);
        CHECKS.reads("{-", 0, 0);
        CHECKS.reads("{--", 0, 0);
        CHECKS.reads("{--}", 0, -1);
        CHECKS.reads("{ --}", 0, 0);
        CHECKS.reads("{--}}", 0, 4);
        CHECKS.reads("{--}-}", 0, 4);
        CHECKS.reads("{- - }", 0, 0);
        CHECKS.reads("{- } -", 0, 0);
        CHECKS.reads("-}", 0, 0);
        CHECKS.reads("{-\n-}", 0, -1);
        CHECKS.reads("{-)-})", 0, 5);
        CHECKS.reads("{" + "-".repeat(7998) + "}", 0, -1);
        CHECKS.reads("{" + "-".repeat(7999), 0, 0);
        CHECKS.reads("{-" + ")".repeat(7996) + "-}", 0, -1);
        CHECKS.reads("{-" + ")".repeat(7996) + "-)", 0, 0);
        TermReader reader = new TermReader();
        Checks.feed(reader, "norm a.{--}");
        CHECKS.due("the text ends within -}", reader.read(0, 10), 1);
        CHECKS.due("so that the remark does not end", reader.fault(), 7);
    }

    private static void remarksWithin() {
        CHECKS.about("others of this kind standing within");
        CHECKS.reads("{-{-", 0, 0);
        CHECKS.reads("{-{--}", 0, 0);
        CHECKS.reads("{-{--}-}", 0, -1);
        CHECKS.reads("{-{--}-}-}", 0, 8);
        CHECKS.reads("{-{--}{--}-})", 0, 12);
        CHECKS.reads("{-{--}{--})", 0, 0);
        CHECKS.reads("{- {- {- -} -} {- -} -})", 0, 23);
        CHECKS.reads("{-".repeat(2000) + "-}".repeat(2000), 0, -1);
        CHECKS.reads("{-".repeat(2000) + "-}".repeat(1999), 0, 0);
        CHECKS.reads("{-".repeat(1999) + "-}".repeat(2001), 0, 4 * 1999);
        CHECKS.reads("{--}".repeat(2000), 0, -1);
        CHECKS.reads("{--}".repeat(1999) + "{--", 0, 4 * 1999);
    }

    private static void noByteInCommon() {
        CHECKS.about("these two never having a byte in common");
        CHECKS.reads("{-}", 0, 0);
        CHECKS.reads("{-})", 0, 0);
        CHECKS.reads("{--}", 0, -1);
        CHECKS.reads("{-}-}", 0, -1);
        CHECKS.reads("{-{-}-}", 0, 0);
        CHECKS.reads("{-{-}-}-}", 0, -1);
        CHECKS.reads("{-{-}-}-}-}", 0, 9);
        CHECKS.reads("{--}-})", 0, 4);
    }

    private static void nothingElseCounts() {
        CHECKS.about("nothing else in a remark counts, no -- in it either");
        CHECKS.reads("{- -- -})", 0, 8);
        CHECKS.reads("{----})", 0, 6);
        CHECKS.reads("{- --\n -})", 0, 9);
        CHECKS.reads("-- {-\n)", 0, 6);
        CHECKS.reads("-- {- \n -}", 0, 8);
        CHECKS.reads("-- -}\n)", 0, 6);
        CHECKS.reads("-- --\n)", 0, 6);
        CHECKS.reads("{- " + "x".repeat(41) + " -})", 0, 47);
        for (int value = 0; value < 256; value++) {
            CHECKS.reads("{- " + (char) value + " -})", 0, 7);
            CHECKS.reads("-- " + (char) value + ")\n)", 0, value == 10 ? 4 : 6);
        }
    }

    private static void remarksAreBlanks() {
        CHECKS.about("Behind and before blanks there are TOKENS");
        names("norm a{--}b--c\nd.", "a b d");
        names("norm{--}a{--}.{--}", "a");
        names("{--}norm--\na--\n.--", "a");
        names("norm ab a{--}b.", "ab a b");
        CHECKS.reads("def a:{--}=b.", 0, 10);
        CHECKS.reads("norm a-{--}>b.", 0, 6);
        CHECKS.reads("norm a->b.", 1, -1);
        CHECKS.reads("norm(a)(b)->c.norm(d).", 2, -1);
        CHECKS.reads("norma.", 0, 0);
        CHECKS.reads("norm a.norm b.", 2, -1);
    }

    private static void longestTokens() {
        CHECKS.about("each the longest that can be read at its place");
        CHECKS.reads("def a:=b.", 1, -1);
        CHECKS.reads("def a: =b.", 0, 7);
        CHECKS.reads("def a:b:=c.", 1, -1);
        CHECKS.reads("def a:b: =c.", 0, 7);
        CHECKS.reads("norm fun a:b=>c.", 1, -1);
        CHECKS.reads("norm fun a:b= >c.", 0, 12);
        CHECKS.reads("norm fun a:b==>c.", 0, 12);
        CHECKS.reads("def a:=>b.", 0, 7);
        CHECKS.reads("def a:==b.", 0, 7);
        CHECKS.reads("norm a->b.", 1, -1);
        CHECKS.reads("norm a- >b.", 0, 6);
        CHECKS.reads("norm a->>b.", 0, 8);
        CHECKS.reads("norm a-->b.", 0, 11);
        CHECKS.reads("norm a->-->\nb.", 1, -1);
        CHECKS.reads("norm a..", 1, 7);
        names("norm ab a b abc.", "ab a b abc");
        names("norm Type10 Type1 Type100.", "Type100");
        names("norm let in' := inn in in_.", "in' inn in_");
        CHECKS.reads("norm let a:=b in c.", 1, -1);
        CHECKS.reads("norm let a:=b inc.", 0, 17);
    }

    private static void firstBytesOfNames() {
        CHECKS.about("a NAME (a letter, A to Z or a to z, or _, ..)");
        for (int value = 0; value < 256; value++) {
            String text = "norm a " + (char) value + "b.";
            if (isLetter(value)) {
                names(text, "a " + (char) value + "b");
            } else if (isBlank(value)) {
                names(text, "a b");
            } else {
                boolean goesOn = value == '(';
                boolean ends = value == '.';
                CHECKS.reads(text, ends ? 1 : 0, goesOn ? 9 : ends ? 8 : 7);
            }
        }
    }

    private static void otherBytesOfNames() {
        CHECKS.about("then letters, digits, _ and '");
        for (int value = 0; value < 256; value++) {
            String text = "norm a" + (char) value + "b.";
            if (isInName(value)) {
                names(text, "a" + (char) value + "b");
                names("norm a" + (char) value + ".", "a" + (char) value);
            } else if (isBlank(value)) {
                names(text, "a b");
            } else {
                boolean goesOn = value == '(';
                boolean ends = value == '.';
                CHECKS.reads(text, ends ? 1 : 0, goesOn ? 8 : ends ? 7 : 6);
            }
        }
    }

    private static void longestNames() {
        CHECKS.about("at most 40 bytes");
        String longest = "_" + "aZ0'".repeat(9) + "9_z";
        String[] before = {"axiom ", "axiom b (", "norm ", "norm fun ", "norm rec ", "data b: c | ", "norm let "};
        String[] behind = {": b.", ": c): d.", ".", ": b => c.", " Prop.", ": d.", " := b in c."};
        for (int i = 0; i < before.length; i++) {
            CHECKS.reads(before[i] + longest.substring(1) + behind[i], 1, -1);
            CHECKS.reads(before[i] + longest + behind[i], 1, -1);
            CHECKS.reads(before[i] + longest + "a" + behind[i], 0, before[i].length());
            CHECKS.reads(before[i] + longest + "'" + behind[i], 0, before[i].length());
            CHECKS.reads(before[i] + longest + longest + behind[i], 0, before[i].length());
        }
        names("norm " + longest + ".", longest);
        CHECKS.reads("norm " + "x".repeat(7994) + ".", 0, 5);
        CHECKS.reads("norm a. " + "x".repeat(40), 1, 8);
        CHECKS.reads("norm a. " + "x".repeat(41), 1, 8);
        CHECKS.reads("norm " + "x".repeat(40), 0, 45);
        CHECKS.reads("norm " + "x".repeat(41), 0, 5);
        TermReader reader = new TermReader();
        Checks.feed(reader, "norm " + "x".repeat(41) + ".");
        CHECKS.due("the text ends behind 40 bytes of it", reader.read(0, 45), 0);
        CHECKS.due("so that it is a name", reader.fault(), 45);
    }

    private static void words() {
        CHECKS.about("but axiom, def, lemma, data, check, norm, fun, all, let, in, rec, Prop, Type .. are WORDS");
        for (String word : WORDS) {
            CHECKS.reads("axiom " + word + ": a.", 0, 6);
            String capital = word.substring(0, 1).toUpperCase() + word.substring(1);
            String small = word.substring(0, 1).toLowerCase() + word.substring(1);
            String[] others = {word + "s", word + "'", word + "_", "_" + word, "x" + word, word + word,
                word.substring(1), word.substring(0, word.length() - 1), word.toUpperCase(),
                capital.equals(word) ? small : capital};
            for (String name : others) {
                CHECKS.reads("axiom " + name + ": a.", 1, -1);
                names("axiom " + name + ": b.", name.equals("b") ? "b" : name + " b");
            }
            if (!word.equals("Type")) {
                CHECKS.reads("axiom " + word + "0: a.", 1, -1);
            }
        }
    }

    private static void typesAsWords() {
        CHECKS.about("Type with one or two digits (the first one not 0 if there are two)");
        for (int number = 0; number <= 99; number++) {
            CHECKS.reads("axiom Type" + number + ": a.", 0, 6);
            CHECKS.reads("norm rec a Type" + number + ".", 1, -1);
            TermReader reader = Checks.readerOf("norm Type" + number + ".");
            CHECKS.due("names of Type" + number, reader.names(), 0);
            CHECKS.due("its value", reader.node(0, 2, 2), 1 + number);
        }
        for (int number = 0; number <= 9; number++) {
            names("axiom Type0" + number + ": Type" + number + ".", "Type0" + number);
            CHECKS.reads("norm rec a Type0" + number + ".", 0, 11);
        }
        for (String name : new String[] {"Type000", "Type100", "Type999", "Type010", "Type1'", "Type1_", "Type1a",
            "Typea", "Type_", "Type'", "Type12'", "type1", "TYPE", "Typ1", "Prop0", "Prop1", "Type1A"}) {
            names("axiom " + name + ": Prop.", name);
            CHECKS.reads("norm rec a " + name + ".", 0, 11);
        }
        CHECKS.reads("norm rec a Type.", 1, -1);
        CHECKS.reads("norm rec a Type 1.", 0, 16);
    }

    private static void signs() {
        CHECKS.about("and the SIGNS ( ) : := => -> , . |");
        CHECKS.reads("data a(b:c):d|e:fun g:h=>all i:j,k->l|m:let n:=o in p.", 1, -1);
        for (int value = 33; value < 256; value++) {
            if (!isInName(value)) {
                boolean goesOn = value == '(' || value == ':';
                CHECKS.reads("axiom a " + (char) value, 0, goesOn ? 9 : 8);
                boolean both = value == '(' || value == ':' || value == '.';
                CHECKS.reads("check a " + (char) value, value == '.' ? 1 : 0, value == '.' ? -1 : both ? 9 : 8);
            }
        }
        for (String twice : new String[] {"=:", ">=", ">-", "<-", "==", "::", "..", "||", "=-", "-=", ":>"}) {
            CHECKS.reads("norm " + twice, 0, 5);
        }
    }
}
