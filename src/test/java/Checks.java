import java.nio.charset.StandardCharsets;

/** What the tests have in common: texts fed and read, texts that were written, and answers compared. */
final class Checks {
    private static final int MOST_SHOWN = 300;

    private int wrong = 0;
    private String sentence = "";

    /** Tells which sentence of the document the next answers are about. */
    void about(String next) {
        sentence = "\"" + next + "\": ";
    }

    void due(String call, Object got, Object want) {
        if (!got.equals(want)) {
            wrong++;
            String asked = call.length() <= MOST_SHOWN ? call : call.substring(0, MOST_SHOWN) + " ..";
            System.out.println(sentence + asked + " answered " + got + ", due is " + want);
        }
    }

    /** Ends the test, with exit code 1 if an answer was wrong. */
    void end() {
        if (wrong > 0) {
            System.out.println(wrong + " wrong answers");
            System.exit(1);
        }
    }

    /** Reads a text with a new reader: how many declarations it has before its fault, and that. */
    void reads(String text, int declarations, int fault) {
        TermReader reader = new TermReader();
        due("read " + text, read(reader, 0, text), declarations);
        due("fault of " + text, reader.fault(), fault);
    }

    /** Feeds a text, with bytes behind it that are no part of it. */
    static int feed(TermReader reader, String text) {
        byte[] bytes = text.getBytes(StandardCharsets.ISO_8859_1);
        int fed = 0;
        for (int from = 0; from < bytes.length; from += 20) {
            fed = reader.feed(four(bytes, from), four(bytes, from + 4), four(bytes, from + 8),
                    four(bytes, from + 12), four(bytes, from + 16));
        }
        return fed;
    }

    static int read(TermReader reader, int tree, String text) {
        feed(reader, text);
        return reader.read(tree, text.length());
    }

    /** A new reader with a text in tree 0. */
    static TermReader readerOf(String text) {
        TermReader reader = new TermReader();
        read(reader, 0, text);
        return reader;
    }

    /** A new reader that has just written so many bytes, 6 or more of them: a -> a -> .. -> a. */
    static TermReader writerOf(int bytes) {
        int firstName = 1 + (bytes - 1) % 5;
        TermReader reader = readerOf("norm " + "a".repeat(firstName) + "->a".repeat((bytes - firstName) / 5) + ".");
        reader.write(0, 2);
        return reader;
    }

    /** A new reader with so many bytes, 6 or more of them. */
    static TermReader withBytes(int bytes) {
        TermReader reader = writerOf(bytes);
        reader.again();
        return reader;
    }

    static String written(TermReader reader) {
        StringBuilder text = new StringBuilder();
        for (int i = 0; reader.written(i) != TermReader.NONE; i++) {
            text.append((char) reader.written(i));
        }
        return text.toString();
    }

    static String spelt(TermReader reader, int name) {
        StringBuilder text = new StringBuilder();
        for (int i = 0; reader.spelt(name, i) != TermReader.NONE; i++) {
            text.append((char) reader.spelt(name, i));
        }
        return text.toString();
    }

    /** All names in the order of their numbers. */
    static String allNames(TermReader reader) {
        StringBuilder text = new StringBuilder();
        for (int name = 0; name < reader.names(); name++) {
            text.append(name == 0 ? "" : " ").append(spelt(reader, name));
        }
        return text.toString();
    }

    /** A text of declarations, written anew from its tree. */
    static String rewritten(String text) {
        return rewrittenTree(readerOf(text), 0);
    }

    static String rewrittenTree(TermReader reader, int tree) {
        reader.write(tree, 0);
        return written(reader);
    }

    /** A tree as a text: of each node kind@place=value, and its parts in brackets. */
    static String shape(TermReader reader, int tree, int k) {
        StringBuilder text = new StringBuilder();
        text.append(reader.node(tree, k, 0)).append('@').append(reader.node(tree, k, 1));
        text.append('=').append(reader.node(tree, k, 2));
        int parts = reader.node(tree, k, 4);
        for (int i = 0; i < parts; i++) {
            text.append(i == 0 ? "[" : " ").append(shape(reader, tree, reader.part(tree, k, i)));
        }
        return text.append(parts > 0 ? "]" : "").toString();
    }

    /** All that can be asked without a change: the fault, the names, both trees, and what was written. */
    static String state(TermReader reader) {
        return reader.fault() + "; " + allNames(reader) + "; " + shape(reader, 0, 0) + "; "
                + shape(reader, 1, 0) + "; " + written(reader) + "; " + reader.same();
    }

    private static int four(byte[] bytes, int from) {
        int word = 0;
        for (int i = from; i < from + 4; i++) {
            word = word << 8 | (i < bytes.length ? bytes[i] & 255 : '#');
        }
        return word;
    }
}
