import java.io.IOException;
import java.util.NoSuchElementException;

/** What the tests of boundary cases share: each of these names the sentence of the document that it is about. */
final class Bounds {
    /** Some of what there may be of each, so that the limits of the class are not the limits of the desk. */
    static final String SMALL = "land a 1;land b 2;land c 3;issue i;issue j;fact f b;fact g c;"
            + "rule a i f whole;rule b j g inner;law a i 5;law c j 99;law b i 1;deed d i j;deed e j;";

    /** As many LANDS, ISSUES, FACTS, DEEDS as there may be; RULES and answers in the corners. */
    static final String FULL = "land a 0;land b 1;land c 2;land d 3;land e 4;land f 1;"
            + "issue i;issue j;issue k;issue l;issue m;issue n;"
            + "fact o a;fact p b;fact q c;fact r d;fact s e;"
            + "rule a i p whole;rule a n q inner;rule f i o inner;rule f n s whole;"
            + "law a i 1;law a n 99;law f i 7;law f n 8;"
            + "deed t i;deed u n;deed v n i;deed w k;deed x i j k l m n;";

    private static Document document;

    private Bounds() {
    }

    static void open(String[] args) throws IOException {
        document = Document.beside(args);
        if (document == null) {
            System.out.println("../shared/DOC.md is not there: quotes are not held against it");
        }
    }

    /** The words that are quoted stand in that part of the document; the remark says which case of them is meant. */
    static void sentence(String part, String quote, String remark) {
        String label = part + ", \"" + quote + "\"" + (remark.isEmpty() ? "" : " (" + remark + ")");
        Check.about(label);
        if (document != null) {
            Check.due("these words stand in the document", document.part(part).contains(quote), true);
            // Told again, so that this one answer is not taken for a test of the sentence.
            Check.about(label);
        }
    }

    static void sentence(String part, String quote) {
        sentence(part, quote, "");
    }

    /** Numbers that are none of 0 to n - 1: beside these, far off, and such as a product or a shift brings back. */
    static int[] outside(int n) {
        return new int[] {Integer.MIN_VALUE, -64, -32, -6, -2, -1, n, n + 1, n + 6, 31, 32, 33, 64, 99, 256,
            715827883, 1431655766, Integer.MAX_VALUE};
    }

    /** The same, but for NONE, where that means something. */
    static int[] outsideButNone(int n) {
        return new int[] {Integer.MIN_VALUE, -64, -32, -6, -3, -2, n, n + 1, n + 6, 31, 32, 33, 64, 99, 256,
            715827883, 1431655766, Integer.MAX_VALUE};
    }

    static final int NO_SUCH_ELEMENT = Integer.MIN_VALUE;

    static int rule(RenvoiDesk x, int land, int issue, int what) {
        try {
            return x.rule(land, issue, what);
        } catch (NoSuchElementException e) {
            return NO_SUCH_ELEMENT;
        }
    }

    /** All that is told, by 60 calls for the small desk: of a run of 512 calls, two or three of these. */
    static String picture(RenvoiDesk x) {
        StringBuilder out = new StringBuilder("lands");
        int lands = x.count(0);
        int issues = x.count(1);
        for (int land = 0; land < lands; land++) {
            out.append(' ').append(x.land(land, 0)).append('/').append(x.land(land, 1));
            for (int issue = 0; issue < issues; issue++) {
                int fact = rule(x, land, issue, 0);
                out.append(',').append(x.inner(land, issue)).append('f').append(fact);
                out.append('w').append(fact >= 0 ? rule(x, land, issue, 1) : -2);
            }
        }
        out.append("; facts");
        for (int fact = x.count(2) - 1; fact >= 0; fact--) {
            out.append(' ').append(x.fact(fact));
        }
        out.append("; heads");
        for (int issue = 0; issue < issues; issue++) {
            out.append(' ').append(x.head(issue));
        }
        out.append("; deeds");
        for (int deed = x.count(3) - 1; deed >= 0; deed--) {
            out.append(' ').append(x.deed(deed));
        }
        return out.append("; rules ").append(x.count(4)).toString();
    }

    /** Behind refused calls: nothing told is other, no ACT more, no byte more. */
    static void stays(RenvoiDesk x, String picture, int acts, int bytes) {
        Check.due("what is told", picture(x), picture);
        Check.due("count(5)", x.count(5), acts);
        Check.due("count(6)", x.count(6), bytes);
    }

    /** The place of the FAULT is marked with ^, which is taken out. */
    static void fault(String marked, int kind) {
        int place = marked.indexOf('^');
        String text = marked.substring(0, place) + marked.substring(place + 1);
        Check.due("desk of [" + text + "]", Check.read(text), Check.fault(place, kind));
    }

    static void sound(String text, int lines) {
        Check.due("desk of [" + text + "]", Check.read(text), lines);
    }

    static String blanks(int many) {
        return " ".repeat(many);
    }
}
