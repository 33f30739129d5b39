import java.nio.charset.StandardCharsets;
import java.util.Arrays;
import java.util.NoSuchElementException;

/** Counts answers that are not due, and feeds texts to a desk. */
final class Check {
    private static int wrong = 0;
    private static int asked = 0;
    private static int askedAhead = 0;
    /** The sentence of the document that is tested now, if a test tells one. */
    private static String about = "";

    private Check() {
    }

    /** What is asked from now on belongs to this sentence; one about which nothing was asked is a gap. */
    static void about(String sentence) {
        if (!about.isEmpty() && asked == askedAhead) {
            wrong++;
            System.out.println(about + ": nothing was asked");
        }
        about = sentence;
        askedAhead = asked;
    }

    static void due(String call, long got, long want) {
        asked++;
        if (got != want) {
            tell(call + " answered " + got + ", due is " + want);
        }
    }

    static void due(String call, boolean got, boolean want) {
        due(call, got ? 1 : 0, want ? 1 : 0);
    }

    static void due(String call, String got, String want) {
        asked++;
        if (!got.equals(want)) {
            tell(call + " is\n  " + got + ", due is\n  " + want);
        }
    }

    private static void tell(String what) {
        wrong++;
        System.out.println((about.isEmpty() ? "" : about + ": ") + what);
    }

    static void ruleThrows(String call, RenvoiDesk x, int land, int issue, int what) {
        boolean thrown = false;
        try {
            x.rule(land, issue, what);
        } catch (NoSuchElementException e) {
            thrown = true;
        }
        due(call + " throws NoSuchElementException", thrown, true);
    }

    /** Feeds the text, blanks behind it up to a multiple of twenty; how many bytes the text has. */
    static int feed(RenvoiDesk x, String text) {
        byte[] raw = text.getBytes(StandardCharsets.ISO_8859_1);
        byte[] all = Arrays.copyOf(raw, (raw.length + 19) / 20 * 20);
        Arrays.fill(all, raw.length, all.length, (byte) ' ');
        for (int i = 0; i < all.length; i += 20) {
            x.feed(number(all, i), number(all, i + 4), number(all, i + 8), number(all, i + 12), number(all, i + 16));
        }
        return raw.length;
    }

    private static int number(byte[] all, int i) {
        return (all[i] & 255) << 24 | (all[i + 1] & 255) << 16 | (all[i + 2] & 255) << 8 | all[i + 3] & 255;
    }

    static int desk(RenvoiDesk x, String text) {
        return x.desk(feed(x, text));
    }

    static RenvoiDesk told(String text) {
        RenvoiDesk x = new RenvoiDesk();
        due("desk of a sound text is no fault: " + text, desk(x, text) >= 0, true);
        return x;
    }

    /** What desk answers to a text on a new desk. */
    static int read(String text) {
        return desk(new RenvoiDesk(), text);
    }

    static int fault(int place, int kind) {
        return -2 - (8 * place + kind);
    }

    static void finish() {
        about("");
        System.out.println(asked + " answers asked, " + wrong + " not as due");
        if (wrong != 0) {
            System.exit(1);
        }
    }
}
