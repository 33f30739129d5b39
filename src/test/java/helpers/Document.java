import java.io.IOException;
import java.nio.file.Files;
import java.nio.file.Path;

/** ../shared/DOC.md, cut into the parts from which tests quote: "Terms 1" to "Terms 3", "Promise 1" to "Promise 34". */
final class Document {
    static final int TERMS = 3;
    static final int PROMISES = 34;

    private final String text;

    private Document(String text) {
        this.text = text;
    }

    /** The document beside the project, which the script tells as the first argument; null if it is not there. */
    static Document beside(String[] args) throws IOException {
        Path file = Path.of(args.length > 0 ? args[0] : ".", "..", "shared", "DOC.md");
        return Files.exists(file) ? new Document(Files.readString(file)) : null;
    }

    /** Blanks and line ends are as one blank, so that a quote may run over lines. */
    String part(String name) {
        if (name.startsWith("Terms ")) {
            int number = Integer.parseInt(name.substring(6));
            return between("\n==== " + number + ".", number < TERMS ? "\n==== " : "\nThe constants:");
        }
        return between("\n## " + name + ":", "\n## ");
    }

    private String between(String head, String next) {
        int from = text.indexOf(head);
        if (from < 0) {
            return "";
        }
        int to = text.indexOf(next, from + head.length());
        return text.substring(from + head.length(), to < 0 ? text.length() : to).replaceAll("\\s+", " ").trim();
    }
}
