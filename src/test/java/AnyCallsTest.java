import java.util.Random;

/** Any calls in any state: none throws, and none fails to end, even behind the 512th. */
public final class AnyCallsTest {
    private static final int[] FAR = {Integer.MIN_VALUE, -8001, -2, -1, 0, 1, 2, 3, 4, 5, 19, 20, 40, 41, 100,
        4096, 7999, 8000, 8001, 8002, 12288, Integer.MAX_VALUE};
    private static final Random RANDOM = new Random(3);

    public static void main(String[] args) {
        RandomTexts texts = new RandomTexts(5);
        for (int run = 0; run < 40; run++) {
            TermReader reader = new TermReader();
            for (int i = 0; i < 3000; i++) {
                call(reader, texts);
            }
        }
        manyNames();
        shortestNames();
    }

    private static int any() {
        return RANDOM.nextInt(4) == 0 ? FAR[RANDOM.nextInt(FAR.length)] : RANDOM.nextInt(60);
    }

    private static int anyTree() {
        return RANDOM.nextInt(6) == 0 ? any() : RANDOM.nextInt(2);
    }

    private static int call(TermReader reader, RandomTexts texts) {
        switch (RANDOM.nextInt(14)) {
            case 0: return reader.feed(RANDOM.nextInt(), RANDOM.nextInt(), any(), any(), any());
            case 1: return reader.read(anyTree(), any());
            case 2: return reader.fault();
            case 3: return reader.nodes(anyTree());
            case 4: return reader.node(anyTree(), any(), any());
            case 5: return reader.part(anyTree(), any(), any());
            case 6: return reader.whole(anyTree(), any());
            case 7: return reader.names();
            case 8: return reader.spelt(any(), any());
            case 9: return reader.write(anyTree(), any());
            case 10: return reader.written(any());
            case 11: return reader.again();
            case 12: return reader.same() ? 1 : 0;
            default: return Checks.read(reader, RANDOM.nextInt(2), texts.spoiltText(2));
        }
    }

    /** More names and more bytes of names than the reader has room for. */
    private static void manyNames() {
        for (int length = 4; length <= 40; length += 36) {
            TermReader reader = new TermReader();
            for (int text = 0; text < 10; text++) {
                StringBuilder names = new StringBuilder("norm");
                for (int i = 0; names.length() + length < 7990; i++) {
                    String number = "" + (10000 * text + i);
                    names.append(' ').append("n".repeat(Math.max(1, length - number.length()))).append(number);
                }
                Checks.read(reader, text & 1, names.append('.').toString());
                reader.write(text & 1, 0);
                reader.again();
                reader.read(1, 100);
                reader.same();
            }
        }
    }

    /** As many names as there is room for, and more: all of one and two bytes, and some of three. */
    private static void shortestNames() {
        String letters = "abcdefghijklmnopqrstuvwxyzABCDEFGHIJKLMNOPQRSTUVWXYZ_";
        String others = letters + "0123456789'";
        TermReader reader = new TermReader();
        int next = 0;
        for (int text = 0; text < 3; text++) {
            StringBuilder names = new StringBuilder("norm");
            for (; names.length() < 7900; next++) {
                String name = "" + letters.charAt(next % 53);
                for (int rest = next / 53; rest > 0; rest /= 64) {
                    name += others.charAt((rest - 1) % 64);
                }
                names.append(' ').append(name.equals("in") ? "in'" : name);
            }
            Checks.read(reader, text & 1, names.append('.').toString());
            reader.write(text & 1, 0);
            reader.spelt(reader.names() - 1, 0);
            reader.spelt(reader.names(), 0);
        }
    }
}
