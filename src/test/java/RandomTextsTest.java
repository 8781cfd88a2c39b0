import java.util.ArrayList;
import java.util.List;
import java.util.Random;

/** All promises: texts made at random, read and written both by TermReader and by the plain reader. */
public final class RandomTextsTest {
    private static final Checks CHECKS = new Checks();
    private static final int CALLS = 512;

    private static final Random RANDOM = new Random(7);
    private static TermReader reader;
    private static int calls;
    private static List<String> names;
    private static final PlainReader.Node[] TREES = new PlainReader.Node[2];
    private static String shown;

    public static void main(String[] args) {
        RandomTexts texts = new RandomTexts(1);
        for (int run = 0; run < 3000; run++) {
            begin();
            while (calls < CALLS / 2) {
                String text = RANDOM.nextInt(3) == 0 ? texts.text(RANDOM.nextInt(4))
                        : texts.spoiltText(1 + RANDOM.nextInt(4));
                if (text.length() > 2000) {
                    continue;
                }
                readText(RANDOM.nextInt(2), text);
                askSome(40);
                writeAndReadAgain();
            }
            askSome(CALLS - calls - 1);
        }
        CHECKS.end();
    }

    private static void begin() {
        reader = new TermReader();
        calls = 0;
        names = new ArrayList<>();
        TREES[0] = new PlainReader.Node(0, -1);
        TREES[1] = new PlainReader.Node(0, -1);
        shown = "";
    }

    private static void due(String call, Object got, Object want) {
        calls++;
        CHECKS.due(call, got, want);
    }

    private static void readText(int tree, String text) {
        calls += (text.length() + 19) / 20;
        Checks.feed(reader, text);
        int end = RANDOM.nextInt(5) == 0 ? RANDOM.nextInt(text.length() + 1) : text.length();
        readFed(tree, text.substring(0, end));
    }

    private static void readFed(int tree, String text) {
        PlainReader plain = new PlainReader(text, names);
        TREES[tree] = plain.tree();
        due("read " + text, reader.read(tree, text.length()), TREES[tree].parts.size());
        due("fault of " + text, reader.fault(), plain.fault);
        due("nodes of " + text, reader.nodes(tree), TREES[tree].size());
        due("names after " + text, reader.names(), names.size());
        due("same after " + text, reader.same(), TREES[0].sameAs(TREES[1]));
    }

    private static void askSome(int most) {
        for (int i = 0; i < most; i++) {
            int tree = RANDOM.nextInt(2);
            List<PlainReader.Node> nodes = new ArrayList<>();
            TREES[tree].listInto(nodes);
            int k = RANDOM.nextInt(nodes.size());
            ask(tree, k, nodes);
        }
    }

    private static void ask(int tree, int k, List<PlainReader.Node> nodes) {
        PlainReader.Node node = nodes.get(k);
        int i = RANDOM.nextInt(node.parts.size() + 1);
        switch (RANDOM.nextInt(10)) {
            case 0: due("kind", reader.node(tree, k, 0), node.kind); break;
            case 1: due("place", reader.node(tree, k, 1), node.place); break;
            case 2: due("value", reader.node(tree, k, 2), node.value); break;
            case 3: due("size", reader.node(tree, k, 3), node.size()); break;
            case 4: due("parts", reader.node(tree, k, 4), node.parts.size()); break;
            case 5:
                due("part", reader.part(tree, k, i),
                        i < node.parts.size() ? nodes.indexOf(node.parts.get(i)) : -1);
                break;
            case 6: due("whole", reader.whole(tree, k), nodes.indexOf(node.whole)); break;
            case 7: askSpelt(); break;
            case 8: askWritten(); break;
            default:
                shown = PlainWriter.write(node, names);
                due("write", reader.write(tree, k), shown.length());
                break;
        }
    }

    private static void askSpelt() {
        if (!names.isEmpty()) {
            int name = RANDOM.nextInt(names.size());
            String spelling = names.get(name);
            int i = RANDOM.nextInt(spelling.length() + 1);
            due("spelt", reader.spelt(name, i), i < spelling.length() ? spelling.charAt(i) : -1);
        }
    }

    private static void askWritten() {
        int i = RANDOM.nextInt(shown.length() + 1);
        due("written", reader.written(i), i < shown.length() ? shown.charAt(i) : -1);
    }

    private static void writeAndReadAgain() {
        int tree = RANDOM.nextInt(2);
        shown = PlainWriter.write(TREES[tree], names);
        due("write", reader.write(tree, 0), shown.length());
        due("again", reader.again(), shown.length());
        readFed(1 - tree, shown);
        due("same as before", reader.same(), true);
    }
}
