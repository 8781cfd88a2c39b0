import java.util.ArrayList;
import java.util.List;
import java.util.Random;

/** Makes texts by the grammar, and spoils some of them. */
final class RandomTexts {
    private static final String[] NAMES = {"a", "b", "x'", "_", "Nat", "Type07", "Props", "lets", "in'",
        "f0", "abcdefghijklmnopqrstuvwxyzabcdefghijklmn", "z"};
    private static final String[] SORTS = {"Prop", "Type", "Type0", "Type9", "Type10", "Type55"};
    private static final String[] ODD = {"(", ")", ":", ":=", "=>", "->", ",", ".", "|", "axiom", "def",
        "lemma", "data", "check", "norm", "fun", "all", "let", "in", "rec", "Prop", "Type", "Type7", "a",
        "b", "#", "{-", "-}", "--", "-", "{", "}", "'", "0", "\0", "\377", "=", "Type01",
        "abcdefghijklmnopqrstuvwxyzabcdefghijklmno", "\n"};
    private static final String[] BLANKS = {" ", " ", " ", " ", "\n", "\t", "\r", "  ", "{--}", "{- a {- -- -} -}",
        "-- b {- c\n", "{-}-}", "{- . -}"};

    private final Random random;
    private final List<String> tokens = new ArrayList<>();

    RandomTexts(long seed) {
        random = new Random(seed);
    }

    /** A text of some declarations, whole. */
    String text(int declarations) {
        tokens.clear();
        for (int i = 0; i < declarations; i++) {
            declaration(1 + random.nextInt(5));
        }
        return joined();
    }

    /** The same, with some tokens left out, put in, or put in the place of others, or with odd bytes. */
    String spoiltText(int declarations) {
        text(declarations);
        for (int times = random.nextInt(3); times >= 0; times--) {
            int at = random.nextInt(tokens.size());
            switch (random.nextInt(3)) {
                case 0: tokens.set(at, pick(ODD)); break;
                case 1: tokens.add(at, pick(ODD)); break;
                default: tokens.remove(at); break;
            }
            if (tokens.isEmpty()) {
                tokens.add("norm");
            }
        }
        return joined();
    }

    private String joined() {
        StringBuilder text = new StringBuilder();
        boolean tight = random.nextInt(3) == 0;
        for (String token : tokens) {
            boolean wordEnds = text.length() > 0 && isInName(text.charAt(text.length() - 1));
            if (!tight && random.nextInt(8) > 0 || wordEnds && isInName(token.charAt(0))) {
                text.append(pick(BLANKS));
            }
            text.append(token);
        }
        return text.append(random.nextInt(4) == 0 ? pick(BLANKS) : "").toString();
    }

    private static boolean isInName(char c) {
        return Character.isLetterOrDigit(c) || c == '_' || c == '\'';
    }

    private String pick(String[] from) {
        return from[random.nextInt(from.length)];
    }

    private void put(String... more) {
        tokens.addAll(List.of(more));
    }

    private void declaration(int size) {
        String word = ODD[9 + random.nextInt(6)];
        put(word);
        if (word.equals("check") || word.equals("norm")) {
            term(size);
        } else {
            put(pick(NAMES));
            groups(random.nextInt(3), size);
        }
        boolean free = word.equals("def") || word.equals("check");
        if (!word.equals("norm") && !(free && random.nextBoolean())) {
            put(":");
            term(size);
        }
        if (word.equals("def") || word.equals("lemma")) {
            put(":=");
            term(size);
        }
        for (int more = word.equals("data") ? random.nextInt(4) : 0; more > 0; more--) {
            put("|", pick(NAMES), ":");
            term(size);
        }
        put(".");
    }

    private void groups(int count, int size) {
        for (int i = 0; i < count; i++) {
            put("(");
            namesAndType(size);
            put(")");
        }
    }

    private void namesAndType(int size) {
        for (int more = random.nextInt(3); more >= 0; more--) {
            put(pick(NAMES));
        }
        put(":");
        term(size - 1);
    }

    private void term(int size) {
        int choice = size <= 0 ? 9 : random.nextInt(10);
        if (choice <= 1) {
            put(choice == 0 ? "fun" : "all");
            if (random.nextBoolean()) {
                namesAndType(size);
            } else {
                groups(1 + random.nextInt(2), size);
            }
            put(choice == 0 ? "=>" : ",");
            term(size - 1);
        } else if (choice == 2) {
            put("let", pick(NAMES));
            if (random.nextBoolean()) {
                put(":");
                term(size - 1);
            }
            put(":=");
            term(size - 1);
            put("in");
            term(size - 1);
        } else {
            for (int more = size <= 0 ? 0 : random.nextInt(3); more >= 0; more--) {
                atom(size);
            }
            if (choice < 6) {
                put("->");
                term(size - 1);
            }
        }
    }

    private void atom(int size) {
        int choice = size <= 0 ? random.nextInt(6) : random.nextInt(9);
        if (choice < 4) {
            put(pick(NAMES));
        } else if (choice == 4) {
            put(pick(SORTS));
        } else if (choice == 5) {
            put("rec", pick(NAMES), pick(SORTS));
        } else {
            put("(");
            term(size - 1);
            if (choice == 6) {
                put(":");
                term(size - 1);
            }
            put(")");
        }
    }
}
