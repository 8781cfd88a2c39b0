import java.util.ArrayDeque;
import java.util.ArrayList;
import java.util.Deque;
import java.util.List;
import java.util.Random;

/**
 * 3, 4, 5, 11, 13 and 14: texts of up to 8000 bytes with terms as deep and as long as they can be,
 * so that as much as possible is begun and not yet ended, compared with the plain reader.
 */
public final class LongestTextsTest {
    /** Beginnings of terms that another one ends, which lies as deep. */
    private static final String[] LONGER = {"a->", "all a:b,", "fun a:b=>", "let a:=b in "};

    /** Beginnings of terms with one in it that lies deeper, and what stands behind that. */
    private static final String[][] DEEPER = {{"(", ")"}, {"(a:", ")"}, {"f(", ")"}, {"fun(a:", ")=>c"},
        {"all a b:", ",c"}, {"let a:", ":=b in c"}, {"let a:=", " in c"}, {"f(x:", ")y"}, {"a->f(", ")->b"},
        {"fun(a:b)(c d:", ")=>e"}, {"all a:b,f(", ")"}};
    private static final String[] DECLARATIONS = {"norm ", "check ", "axiom a:", "data a:b|c:", "def a:=",
        "lemma a(b:c):d:="};

    /** The plain reader is recursive, and these terms are thousands of calls deep. */
    private static final long STACK = 1L << 26;
    private static final Checks CHECKS = new Checks();
    private static final Random RANDOM = new Random(11);

    public static void main(String[] args) throws InterruptedException {
        Thread plain = new Thread(null, LongestTextsTest::compareAll, "plain", STACK);
        boolean[] thrown = {false};
        plain.setUncaughtExceptionHandler((thread, what) -> {
            what.printStackTrace();
            thrown[0] = true;
        });
        plain.start();
        plain.join();
        CHECKS.due("something was thrown", thrown[0], false);
        CHECKS.end();
    }

    private static void compareAll() {
        for (int run = 0; run < 600; run++) {
            String[] longer = run % 3 == 0 ? LONGER : new String[] {LONGER[run % LONGER.length]};
            compare(text(longer, 98 + RANDOM.nextInt(5), 6000 + RANDOM.nextInt(2001), run % 2 == 0));
        }
    }

    /** One declaration with a term so deep, and of so many bytes at most. */
    private static String text(String[] longer, int deep, int most, boolean deepFirst) {
        StringBuilder text = new StringBuilder(DECLARATIONS[RANDOM.nextInt(DECLARATIONS.length)]);
        Deque<String> behind = new ArrayDeque<>();
        int bytesBehind = "x.".length();
        while (true) {
            boolean deeper = behind.size() < deep - 1 && (deepFirst || RANDOM.nextInt(10) == 0);
            String[] next = deeper ? DEEPER[RANDOM.nextInt(DEEPER.length)]
                    : new String[] {longer[RANDOM.nextInt(longer.length)], ""};
            bytesBehind += next[1].length();
            if (text.length() + next[0].length() + bytesBehind > most) {
                break;
            }
            text.append(next[0]);
            if (deeper) {
                behind.push(next[1]);
            }
        }
        return text.append('x').append(String.join("", behind)).append('.').toString();
    }

    private static void compare(String text) {
        List<String> names = new ArrayList<>();
        PlainReader plain = new PlainReader(text, names);
        PlainReader.Node tree = plain.tree();
        TermReader reader = new TermReader();
        CHECKS.due("read " + text, Checks.read(reader, 0, text), tree.parts.size());
        CHECKS.due("fault of " + text, reader.fault(), plain.fault);
        CHECKS.due("nodes of " + text, reader.nodes(0), tree.size());
        String written = PlainWriter.write(tree, names);
        if (written.length() > 8000) {
            CHECKS.due("write " + text, reader.write(0, 0), -1);
            return;
        }
        CHECKS.due("write " + text, reader.write(0, 0), written.length());
        CHECKS.due("again " + text, reader.again(), written.length());
        CHECKS.due("read again " + text, reader.read(1, written.length()), tree.parts.size());
        CHECKS.due("same " + text, reader.same(), true);
    }
}
