import java.util.ArrayList;
import java.util.List;
import java.util.Set;

/**
 * The document's grammar once more, as plainly as it can be said: by recursion over the text, with
 * an object for each node. The tests compare TermReader with it.
 */
final class PlainReader {
    private static final Set<String> WORDS = Set.of("axiom", "def", "lemma", "data", "check", "norm",
            "fun", "all", "let", "in", "rec");
    private static final String END = "";
    private static final String BAD = "#";

    /** A node, which knows its parts and its whole. */
    static final class Node {
        final int kind;
        int place;
        int value = 0;
        Node whole = null;
        final List<Node> parts = new ArrayList<>();

        Node(int kind, int place) {
            this.kind = kind;
            this.place = place;
        }

        Node with(Node part) {
            part.whole = this;
            parts.add(part);
            return this;
        }

        void listInto(List<Node> nodes) {
            nodes.add(this);
            for (Node part : parts) {
                part.listInto(nodes);
            }
        }

        int size() {
            int size = 1;
            for (Node part : parts) {
                size += part.size();
            }
            return size;
        }

        boolean sameAs(Node other) {
            if (kind != other.kind || value != other.value || parts.size() != other.parts.size()) {
                return false;
            }
            for (int i = 0; i < parts.size(); i++) {
                if (!parts.get(i).sameAs(other.parts.get(i))) {
                    return false;
                }
            }
            return true;
        }
    }

    /** Thrown at the fault. */
    private static final class Fault extends Exception {
        private static final long serialVersionUID = 1L;
    }

    final List<String> names;
    private final String text;
    private String token;
    private int place;
    private int behind = 0;
    int fault = -1;

    PlainReader(String text, List<String> names) {
        this.text = text;
        this.names = names;
    }

    /** The tree of the declarations before the fault. */
    Node tree() {
        Node tree = new Node(0, -1);
        advance();
        while (!token.equals(END) && fault < 0) {
            int known = names.size();
            try {
                tree.with(declaration());
            } catch (Fault found) {
                fault = place;
                names.subList(known, names.size()).clear();
            }
        }
        return tree;
    }

    private void advance() {
        int at = behindBlanks(behind);
        place = at;
        if (at == text.length()) {
            token = END;
            return;
        }
        token = longestTokenAt(at);
        behind = at + token.length();
        if (token.length() > 40) {
            token = BAD;
        }
    }

    private int behindBlanks(int from) {
        int at = from;
        while (at < text.length()) {
            if ("\t\n\r ".indexOf(text.charAt(at)) >= 0) {
                at++;
            } else if (text.startsWith("--", at)) {
                int line = text.indexOf('\n', at);
                at = line < 0 ? text.length() : line;
            } else if (text.startsWith("{-", at)) {
                int end = behindRemark(at);
                if (end < 0) {
                    return at;
                }
                at = end;
            } else {
                return at;
            }
        }
        return at;
    }

    private int behindRemark(int from) {
        int at = from + 2;
        while (at < text.length()) {
            if (text.startsWith("-}", at)) {
                return at + 2;
            }
            if (text.startsWith("{-", at)) {
                at = behindRemark(at);
                if (at < 0) {
                    return -1;
                }
            } else {
                at++;
            }
        }
        return -1;
    }

    private String longestTokenAt(int at) {
        for (String sign : List.of(":=", "=>", "->", "(", ")", ":", ",", ".", "|")) {
            if (text.startsWith(sign, at)) {
                return sign;
            }
        }
        String rest = text.substring(at);
        String name = rest.replaceFirst("(?s)^([A-Za-z_][A-Za-z0-9_']*).*$", "$1");
        return rest.matches("(?s)[A-Za-z_].*") ? name : BAD;
    }

    private boolean at(String wanted) {
        return token.equals(wanted);
    }

    private boolean atSort() {
        return token.matches("Prop|Type|Type[0-9]|Type[1-9][0-9]");
    }

    private boolean atName() {
        return token.matches("[A-Za-z_][A-Za-z0-9_']*") && !WORDS.contains(token) && !atSort();
    }

    private void take(String wanted) throws Fault {
        if (!at(wanted)) {
            throw new Fault();
        }
        advance();
    }

    private Node declaration() throws Fault {
        int kind = List.of("axiom", "def", "lemma", "data", "", "check", "norm").indexOf(token) + 1;
        if (kind == 0) {
            throw new Fault();
        }
        Node node = new Node(kind, place);
        advance();
        if (kind <= 4) {
            node.with(name(9));
            while (at("(")) {
                node.with(group());
            }
        } else {
            node.with(term(1));
        }
        if (kind == 1 || kind == 3 || kind == 4 || kind != 7 && at(":")) {
            take(":");
            node.with(term(1));
        } else if (kind != 7) {
            node.with(new Node(19, -1));
        }
        if (kind == 2 || kind == 3) {
            take(":=");
            node.with(term(1));
        }
        while (kind == 4 && at("|")) {
            Node constructor = new Node(5, place);
            advance();
            constructor.with(name(9));
            take(":");
            node.with(constructor.with(term(1)));
        }
        take(".");
        return node;
    }

    private Node name(int kind) throws Fault {
        if (!atName()) {
            throw new Fault();
        }
        Node node = new Node(kind, place);
        if (!names.contains(token)) {
            names.add(token);
        }
        node.value = names.indexOf(token);
        advance();
        return node;
    }

    private Node group() throws Fault {
        return group(0);
    }

    private Node group(int deep) throws Fault {
        Node node = new Node(8, place);
        take("(");
        namesAndType(node, deep);
        take(")");
        return node;
    }

    private void namesAndType(Node node, int deep) throws Fault {
        do {
            node.with(name(9));
        } while (atName());
        take(":");
        node.with(term(deep + 1));
    }

    private Node term(int deep) throws Fault {
        if (deep == 101) {
            throw new Fault();
        }
        if (at("fun") || at("all")) {
            return binding(deep);
        }
        if (at("let")) {
            return let(deep);
        }
        Node left = atom(deep);
        while (atName() || atSort() || at("rec") || at("(")) {
            left = new Node(14, left.place).with(left).with(atom(deep));
        }
        if (!at("->")) {
            return left;
        }
        advance();
        return new Node(13, left.place).with(left).with(term(deep));
    }

    private Node binding(int deep) throws Fault {
        boolean fun = at("fun");
        Node node = new Node(fun ? 10 : 11, place);
        advance();
        if (at("(")) {
            while (at("(")) {
                node.with(group(deep));
            }
        } else {
            Node group = new Node(8, place);
            namesAndType(group, deep);
            node.with(group);
        }
        take(fun ? "=>" : ",");
        return node.with(term(deep));
    }

    private Node let(int deep) throws Fault {
        Node node = new Node(12, place);
        advance();
        node.with(name(9));
        if (at(":")) {
            advance();
            node.with(term(deep + 1));
        } else {
            node.with(new Node(19, -1));
        }
        take(":=");
        node.with(term(deep + 1));
        take("in");
        return node.with(term(deep));
    }

    private Node atom(int deep) throws Fault {
        int start = place;
        if (at("rec")) {
            advance();
            return new Node(18, start).with(name(16)).with(sort());
        }
        if (at("(")) {
            advance();
            Node inner = term(deep + 1);
            if (at(":")) {
                advance();
                inner = new Node(15, start).with(inner).with(term(deep + 1));
            }
            take(")");
            return inner;
        }
        return atSort() ? sort() : name(16);
    }

    private Node sort() throws Fault {
        if (!atSort()) {
            throw new Fault();
        }
        Node node = new Node(17, place);
        String digits = token.substring(4);
        node.value = at("Prop") ? 0 : digits.isEmpty() ? 1 : 1 + Integer.parseInt(digits);
        advance();
        return node;
    }
}
