import java.util.ArrayList;
import java.util.Arrays;
import java.util.List;

/**
 * The fault's edges once more, at every token of texts that have all there is: each text cut behind
 * every byte, and with every token left out, or with any other one before it or in its place, is
 * compared with the plain reader.
 */
public final class EveryTokenTest {
    private static final Checks CHECKS = new Checks();
    private static final String[] TEXTS = {
        "data a ( b c : d ) ( e : f ) : g | h : i -> a | j : k .",
        "axiom a ( b : c ) : d e . def f := fun g h : i => j . check k .",
        "lemma a : all ( b : c ) ( d : e ) , f := let g : h := i in j -> k l .",
        "def a ( b : c ) : d := let e := f in rec g Type . check Prop : Type1 .",
        "norm ( a : b ) ( c d ) ( fun e : f -> g => h ) -> ( let i := ( j ) in k ) .",
    };
    private static final String[] TOKENS = {"axiom", "def", "lemma", "data", "check", "norm", "fun", "all", "let",
        "in", "rec", "Prop", "Type9", "x", "(", ")", ":", ":=", "=>", "->", ",", ".", "|", "#", "{-", "{--}", "--"};

    public static void main(String[] args) {
        for (String text : TEXTS) {
            for (int end = 0; end <= text.length(); end++) {
                compare(text.substring(0, end));
                compare(text.replace(" ", "  ").substring(0, end));
            }
            List<String> tokens = Arrays.asList(text.split(" "));
            for (int at = 0; at < tokens.size(); at++) {
                compare(changed(tokens, at, 1));
                for (String other : TOKENS) {
                    compare(changed(tokens, at, 1, other));
                    compare(changed(tokens, at, 0, other));
                }
            }
        }
        CHECKS.end();
    }

    private static String changed(List<String> tokens, int at, int left, String... others) {
        List<String> changed = new ArrayList<>(tokens.subList(0, at));
        changed.addAll(List.of(others));
        changed.addAll(tokens.subList(at + left, tokens.size()));
        return String.join(" ", changed);
    }

    private static void compare(String text) {
        PlainReader plain = new PlainReader(text, new ArrayList<>());
        PlainReader.Node tree = plain.tree();
        TermReader reader = new TermReader();
        CHECKS.due("read " + text, Checks.read(reader, 0, text), tree.parts.size());
        CHECKS.due("fault of " + text, reader.fault(), plain.fault);
        CHECKS.due("nodes of " + text, reader.nodes(0), tree.size());
        CHECKS.due("names of " + text, Checks.allNames(reader), String.join(" ", plain.names));
        CHECKS.due("write " + text, reader.write(0, 0), PlainWriter.write(tree, plain.names).length());
    }
}
