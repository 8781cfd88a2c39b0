import java.util.ArrayList;
import java.util.List;

/** What WRITTEN says, by recursion: first the tokens, then the blanks between them. */
final class PlainWriter {
    private final List<String> names;
    private final List<String> tokens = new ArrayList<>();

    private PlainWriter(List<String> names) {
        this.names = names;
    }

    static String write(PlainReader.Node node, List<String> names) {
        PlainWriter writer = new PlainWriter(names);
        writer.put(node, true);
        StringBuilder text = new StringBuilder();
        String last = "(";
        for (String token : writer.tokens) {
            boolean joined = last.equals("(") || last.equals("\n") || "):,.\n".contains(token);
            text.append(joined ? "" : " ").append(token);
            last = token;
        }
        return text.toString();
    }

    private void put(PlainReader.Node node, boolean alone) {
        List<PlainReader.Node> parts = node.parts;
        int count = parts.size();
        switch (node.kind) {
            case 0:
                for (PlainReader.Node part : parts) {
                    put(part, false);
                    tokens.add("\n");
                }
                break;
            case 1: case 2: case 3: case 4:
                putDeclaration(node);
                break;
            case 5:
                tokens.addAll(alone ? List.of() : List.of("|"));
                put(parts.get(0), false);
                putType(parts.get(1));
                break;
            case 6:
                tokens.add("check");
                put(parts.get(0), false);
                putType(parts.get(1));
                tokens.add(".");
                break;
            case 7:
                tokens.add("norm");
                put(parts.get(0), false);
                tokens.add(".");
                break;
            case 8:
                tokens.add("(");
                putGroup(node);
                tokens.add(")");
                break;
            case 9: case 16:
                tokens.add(names.get(node.value));
                break;
            case 10: case 11:
                tokens.add(node.kind == 10 ? "fun" : "all");
                if (count == 2) {
                    putGroup(parts.get(0));
                } else {
                    putAll(parts.subList(0, count - 1));
                }
                tokens.add(node.kind == 10 ? "=>" : ",");
                put(parts.get(count - 1), false);
                break;
            case 12:
                tokens.add("let");
                put(parts.get(0), false);
                putType(parts.get(1));
                tokens.add(":=");
                put(parts.get(2), false);
                tokens.add("in");
                put(parts.get(3), false);
                break;
            case 13:
                putIn(parts.get(0), parts.get(0).kind >= 10 && parts.get(0).kind <= 13);
                tokens.add("->");
                put(parts.get(1), false);
                break;
            case 14:
                putIn(parts.get(0), parts.get(0).kind >= 10 && parts.get(0).kind <= 13);
                putIn(parts.get(1), parts.get(1).kind >= 10 && parts.get(1).kind <= 14);
                break;
            case 15:
                tokens.add("(");
                put(parts.get(0), false);
                putType(parts.get(1));
                tokens.add(")");
                break;
            case 17:
                tokens.add(node.value == 0 ? "Prop" : "Type" + (node.value - 1));
                break;
            case 18:
                tokens.add("rec");
                putAll(parts);
                break;
            default:
                break;
        }
    }

    private void putDeclaration(PlainReader.Node node) {
        tokens.add(List.of("axiom", "def", "lemma", "data").get(node.kind - 1));
        int next = 0;
        while (node.parts.get(next).kind == 8 || node.parts.get(next).kind == 9) {
            put(node.parts.get(next), false);
            next++;
        }
        putType(node.parts.get(next));
        if (node.kind == 2 || node.kind == 3) {
            tokens.add(":=");
        }
        putAll(node.parts.subList(next + 1, node.parts.size()));
        tokens.add(".");
    }

    private void putGroup(PlainReader.Node group) {
        int last = group.parts.size() - 1;
        putAll(group.parts.subList(0, last));
        putType(group.parts.get(last));
    }

    private void putType(PlainReader.Node type) {
        if (type.kind != 19) {
            tokens.add(":");
            put(type, false);
        }
    }

    private void putAll(List<PlainReader.Node> nodes) {
        for (PlainReader.Node node : nodes) {
            put(node, false);
        }
    }

    private void putIn(PlainReader.Node node, boolean brackets) {
        if (brackets) {
            tokens.add("(");
        }
        put(node, false);
        if (brackets) {
            tokens.add(")");
        }
    }
}
