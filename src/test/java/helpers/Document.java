import java.io.IOException;
import java.nio.file.Files;
import java.nio.file.Path;
import java.util.LinkedHashMap;
import java.util.List;
import java.util.Map;
import java.util.regex.Matcher;
import java.util.regex.Pattern;

/**
 * ../shared/DOC.md, cut into the parts from which tests quote: "What it is", "The public face", "Terms" (what stands
 * ahead of its parts), "Terms 1" to "Terms 3", "The constants", "Promise 1" to "Promise 34", "Not promised".
 */
final class Document {
    static final int TERMS = 3;
    static final int PROMISES = 34;

    private final String text;

    private Document(String text) {
        this.text = text;
    }

    /** The document beside the project, which the script tells as the first argument; null if it is not there. */
    static Document beside(String[] args) throws IOException {
        Path file = Path.of(args.length > 0 ? args[0] : ".", "..", "shared", "DOC.md");
        return Files.exists(file) ? new Document(Files.readString(file)) : null;
    }

    /** Blanks and line ends are as one blank, so that a quote may run over lines. */
    String part(String name) {
        if (name.startsWith("Terms ")) {
            int number = Integer.parseInt(name.substring(6));
            return between("\n==== " + number + ".", number < TERMS ? "\n==== " : "\nThe constants:");
        }
        if (name.equals("Terms")) {
            return between("\n## Terms", "\n==== ");
        }
        if (name.equals("The constants")) {
            return between("\nThe constants:", "\n");
        }
        return between("\n## " + name + (name.startsWith("Promise ") ? ":" : "\n"), "\n## ");
    }

    /** What a promise says of its call, behind the call itself. */
    String words(int promise) {
        String part = part("Promise " + promise);
        int behind = part.indexOf("`: ");
        return behind < 0 ? part : part.substring(behind + 3);
    }

    /** The call of a promise as it is written there, "int feed(int a, ..)". */
    String call(int promise) {
        String part = part("Promise " + promise);
        int open = part.indexOf('`');
        int close = part.indexOf('`', open + 1);
        return open < 0 || close < 0 ? "" : part.substring(open + 1, close);
    }

    /** What the interface says ahead of calls: these, and its words behind "----". */
    Map<String, List<String>> groups() {
        Map<String, List<String>> all = new LinkedHashMap<>();
        Matcher m = Pattern.compile("Ahead of the calls ([^\n]*) the interface says: ---- (\\w+)\\.").matcher(text);
        while (m.find()) {
            all.put(m.group(2), List.of(m.group(1).replace("`", "").split(", ")));
        }
        return all;
    }

    private String between(String head, String next) {
        int from = text.indexOf(head);
        if (from < 0) {
            return "";
        }
        int to = text.indexOf(next, from + head.length());
        return text.substring(from + head.length(), to < 0 ? text.length() : to).replaceAll("\\s+", " ").trim();
    }
}
