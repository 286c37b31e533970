import java.io.IOException;
import java.nio.charset.StandardCharsets;
import java.nio.file.Files;
import java.nio.file.Path;
import java.util.List;
import java.util.Map;
import java.util.TreeMap;

/**
 * Each sentence of the document that names a boundary case, by a test of its own. The tests quote the
 * document; here the quotes are held against it, so that no word of a promise stays without a test.
 */
public final class EdgesTest {
    private static final Path DOCUMENT = Path.of("../shared/DOC.md");

    public static void main(String[] args) throws IOException {
        Edges[] all = {
            new TermsEdges(), new TextEdges(), new RuleEdges(), new RowEdges(), new ClubEdges(), new DeedEdges(),
            new VoteEdges(), new OrderEdges(), new SumEdges(), new ToldEdges(),
        };
        for (Edges edges : all) {
            edges.all();
        }
        if (Files.exists(DOCUMENT)) {
            holdAgainstDocument();
        } else {
            System.out.println("EdgesTest: no " + DOCUMENT + ", so the quotes are not held against it");
        }
        Edges.due.end("EdgesTest");
    }

    private static void holdAgainstDocument() throws IOException {
        Map<String, String> sections = sections(Files.readString(DOCUMENT, StandardCharsets.UTF_8));
        for (int promise = 1; promise <= 46; promise++) {
            Edges.due.is("tests of promise " + promise, Edges.SAID.containsKey("Promise " + promise) ? 1 : 0, 1);
        }
        for (Map.Entry<String, List<String>> said : Edges.SAID.entrySet()) {
            String text = sections.getOrDefault(said.getKey(), "");
            String left = withoutQuotes(said.getKey(), text, said.getValue());
            boolean whole = !said.getKey().equals("What it is");
            if (whole && left.matches(".*\\w.*")) {
                Edges.due.is(said.getKey() + " has words without a test: " + left.replaceAll(" +", " "), 1, 0);
            }
        }
    }

    /** The text of each heading as one line; a promise's is told by its number alone. */
    private static Map<String, String> sections(String document) {
        Map<String, String> sections = new TreeMap<>();
        for (String part : document.split("(?m)^## ")) {
            int end = part.indexOf('\n');
            String heading = part.substring(0, Math.max(end, 0)).replaceAll("^(Promise \\d+):.*", "$1").trim();
            String text = part.substring(Math.max(end, 0));
            // What stands ahead of calls in the interface, and the signatures, are no sentences of promises.
            text = text.replaceAll("(?s)Ahead of the calls.*", "").replaceAll("```text|```", " ");
            text = text.replaceAll("`[^`\n]*`:", " ").replaceAll("======== \\d", " ").replaceAll("\\s+", " ");
            sections.put(heading, text);
        }
        return sections;
    }

    private static String withoutQuotes(String heading, String text, List<String> quotes) {
        StringBuilder left = new StringBuilder(text);
        for (String quote : quotes) {
            int at = text.indexOf(quote);
            Edges.due.is(heading + " has the words '" + quote + "'", at >= 0 ? 1 : 0, 1);
            for (int i = at; at >= 0 && i < at + quote.length(); i++) {
                left.setCharAt(i, ' ');
            }
        }
        return left.toString();
    }
}
