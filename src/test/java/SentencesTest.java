import java.io.IOException;
import java.nio.file.Files;
import java.nio.file.Path;
import java.util.ArrayList;
import java.util.Arrays;
import java.util.HashMap;
import java.util.HashSet;
import java.util.List;
import java.util.Map;
import java.util.Set;
import java.util.function.Predicate;
import java.util.regex.Matcher;
import java.util.regex.Pattern;
import java.util.stream.Stream;

/**
 * That no sentence is forgotten: each boundary that the document names is quoted by a test of its own in the Bounds files,
 * and no word of "What it is", "Terms" and the promises stands outside of all quotes.
 */
public final class SentencesTest {
    private static final Pattern QUOTE = Pattern.compile("Bounds\\.sentence\\(\"([^\"]*)\",\\s*\"([^\"]*)\"");
    private static final Pattern TEST = Pattern.compile("private static void (\\w+)\\(\\) \\{");
    private static final Pattern REFUSAL = Pattern.compile("(?:NONE|-2|false|NoSuchElementException): ([^;.]*)");

    /** What may stand outside: how a refusal begins (what is refused is quoted), marks of the page, what is free. */
    private static final Pattern UNQUOTED = Pattern.compile("NONE:|-2:|false:|NoSuchElementException:|```text"
            + "|Renvoi desk:|what later calls answer is free");

    /** The limits, the kinds of FAULT and what stays: words of the document that a test must quote. */
    private static final String[][] WORDS = {
        {"Terms 1", "700 bytes", "1 to 6", "1 or 2", "; alone", "longer ones", "all else are no TOKENS", "land NAME THEORY ; (6 at most",
            "0 to 4", "issue NAME ; (6 at most)", "fact NAME NAME ; (5 at most", "deed NAME NAME { NAME } ; (5 at most", "0 to 99",
            "each once", "numbered as told", "A NAME is a WORD but", "no two are alike", "place is least",
            "of one place the first of this list", "1 the first byte that begins no TOKEN", "TOKEN with which no TEXT goes on",
            "the end: how many bytes there are", "2 a NAME given that is there", "the ISSUE of a second rule",
            "a second law of a LAND on it", "an ISSUE of a DEED a second time", "3 a NAME that is none told ahead",
            "none of what must stand there", "4 a NUMBER that can't be", "5 the WORD land, issue, fact, deed of one too many"},
        {"Terms 2", "itself at first", "if one is", "0 without", "ENDS there (0)", "ENDS there (1)", "ENDS there (2)",
            "also where it has been already", "ENDS in a LOOP (3)", "does not come there again", "CLOSES at that one",
            "from that one on", "0: if it has no RULE", "1: as 0", "not itself", "2: that of", "3: as 0", "asked in its turn",
            "the first one, too", "4: as 2", "are above 0", "in another one not"},
        {"Terms 3", "unlike the one that it tells", "in the most LANDS", "2 at most", "also as it was", "joined, cut", "mirrored",
            "The last 12", "one by one", "KEEPS 0 and 1", "all but THE TAPE", "nothing can be UNDONE when one is gone back to"},
        {"Promise 2", "none come", "more than 700", "the highest first"},
        {"Promise 3", "it is empty then", "nothing can be UNDONE", "nothing is KEPT", "THE TAPE stays", "8 * place + kind",
            "all else stays"},
        {"Promise 24", "0: it STANDS in all"},
        {"Promise 34", "5: ACTS", "6: bytes", "7: HEADS", "NONE for another what"}};

    public static void main(String[] args) throws IOException {
        Document document = Document.beside(args);
        Map<String, Set<String>> quotes = quotes(Path.of(args.length > 0 ? args[0] : ".", "src", "test", "java"));
        for (int promise = 1; promise <= Document.PROMISES; promise++) {
            String part = "Promise " + promise;
            Check.due("a test quotes " + part, quotes.containsKey(part), true);
            for (String refused : document == null ? List.<String>of() : refusals(document.part(part))) {
                due(part, refused, quotes, quote -> quote.equals(refused) || quote.endsWith(": " + refused));
            }
        }
        for (String[] words : WORDS) {
            for (int i = 1; i < words.length; i++) {
                String each = words[i];
                due(words[0], each, quotes, quote -> quote.contains(each));
            }
        }
        if (document != null) {
            noWordIsLeft("What it is", document.part("What it is"), quotes);
            noWordIsLeft("Terms", document.part("Terms"), quotes);
            for (int term = 1; term <= Document.TERMS; term++) {
                noWordIsLeft("Terms " + term, document.part("Terms " + term), quotes);
            }
            noWordIsLeft("The constants", document.part("The constants"), quotes);
            for (int promise = 1; promise <= Document.PROMISES; promise++) {
                noWordIsLeft("Promise " + promise, document.words(promise), quotes);
            }
        }
        Check.finish();
    }

    private static void noWordIsLeft(String part, String words, Map<String, Set<String>> quotes) {
        Check.due(part + " is there", words.isEmpty(), false);
        char[] left = words.toCharArray();
        for (String quote : quotes.getOrDefault(part, Set.of())) {
            for (int at = words.indexOf(quote); at >= 0; at = words.indexOf(quote, at + 1)) {
                Arrays.fill(left, at, at + quote.length(), '.');
            }
        }
        for (String stretch : UNQUOTED.matcher(new String(left)).replaceAll(".").split("\\.+")) {
            boolean word = stretch.chars().anyMatch(Character::isLetterOrDigit);
            Check.due(part + ": no test quotes \"" + stretch.trim() + "\"", word, false);
        }
    }

    private static void due(String part, String words, Map<String, Set<String>> quotes, Predicate<String> quoted) {
        boolean found = quotes.getOrDefault(part, Set.of()).stream().anyMatch(quoted);
        Check.due(part + ": a test quotes \"" + words + "\"", found, true);
    }

    private static Map<String, Set<String>> quotes(Path tests) throws IOException {
        Map<String, Set<String>> all = new HashMap<>();
        try (Stream<Path> files = Files.list(tests)) {
            for (Path file : (Iterable<Path>) files::iterator) {
                if (file.getFileName().toString().startsWith("Bounds")) {
                    String source = Files.readString(file);
                    eachIsRun(file.getFileName() + "", source);
                    Matcher m = QUOTE.matcher(source);
                    while (m.find()) {
                        all.computeIfAbsent(m.group(1), part -> new HashSet<>()).add(m.group(2));
                    }
                }
            }
        }
        return all;
    }

    /** A quote in a method that main does not run would be none. */
    private static void eachIsRun(String file, String source) {
        Matcher m = TEST.matcher(source);
        while (m.find()) {
            Check.due(file + " runs " + m.group(1), source.contains("        " + m.group(1) + "();"), true);
        }
    }

    /** What stands behind "NONE:", "-2:", "false:" and "NoSuchElementException:", each case for itself. */
    private static List<String> refusals(String promise) {
        List<String> all = new ArrayList<>();
        Matcher m = REFUSAL.matcher(promise);
        while (m.find()) {
            all.addAll(List.of(upToItsBracket(m.group(1)).split(", ")));
        }
        return all;
    }

    /** Up to the ) of a bracket that was opened ahead of the words. */
    private static String upToItsBracket(String words) {
        int close = words.indexOf(')');
        int open = words.indexOf('(');
        return close >= 0 && (open < 0 || open > close) ? words.substring(0, close) : words;
    }
}
