import java.nio.charset.StandardCharsets;

/** What the tests have in common: texts fed and read, texts that were written, and answers compared. */
final class Checks {
    private int wrong = 0;

    void due(String call, Object got, Object want) {
        if (!got.equals(want)) {
            wrong++;
            System.out.println(call + " answered " + got + ", due is " + want);
        }
    }

    /** Ends the test, with exit code 1 if an answer was wrong. */
    void end() {
        if (wrong > 0) {
            System.out.println(wrong + " wrong answers");
            System.exit(1);
        }
    }

    /** Feeds a text, with bytes behind it that are no part of it. */
    static int feed(TermReader reader, String text) {
        byte[] bytes = text.getBytes(StandardCharsets.ISO_8859_1);
        int fed = 0;
        for (int from = 0; from < bytes.length; from += 20) {
            fed = reader.feed(four(bytes, from), four(bytes, from + 4), four(bytes, from + 8),
                    four(bytes, from + 12), four(bytes, from + 16));
        }
        return fed;
    }

    static int read(TermReader reader, int tree, String text) {
        feed(reader, text);
        return reader.read(tree, text.length());
    }

    static String written(TermReader reader) {
        StringBuilder text = new StringBuilder();
        for (int i = 0; reader.written(i) != TermReader.NONE; i++) {
            text.append((char) reader.written(i));
        }
        return text.toString();
    }

    static String spelt(TermReader reader, int name) {
        StringBuilder text = new StringBuilder();
        for (int i = 0; reader.spelt(name, i) != TermReader.NONE; i++) {
            text.append((char) reader.spelt(name, i));
        }
        return text.toString();
    }

    /** A text of declarations, written anew from its tree. */
    static String rewritten(String text) {
        TermReader reader = new TermReader();
        read(reader, 0, text);
        reader.write(0, 0);
        return written(reader);
    }

    /** A tree as a text: of each node kind@place=value, and its parts in brackets. */
    static String shape(TermReader reader, int tree, int k) {
        StringBuilder text = new StringBuilder();
        text.append(reader.node(tree, k, 0)).append('@').append(reader.node(tree, k, 1));
        text.append('=').append(reader.node(tree, k, 2));
        int parts = reader.node(tree, k, 4);
        for (int i = 0; i < parts; i++) {
            text.append(i == 0 ? "[" : " ").append(shape(reader, tree, reader.part(tree, k, i)));
        }
        return text.append(parts > 0 ? "]" : "").toString();
    }

    private static int four(byte[] bytes, int from) {
        int word = 0;
        for (int i = from; i < from + 4; i++) {
            word = word << 8 | (i < bytes.length ? bytes[i] & 255 : '#');
        }
        return word;
    }
}
