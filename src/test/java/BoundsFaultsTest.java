import java.io.IOException;

/** Boundary cases of Terms 1 (FAULTS): each kind with its place. */
public final class BoundsFaultsTest {
    private static final String SIX_LANDS = "land a 0;land b 0;land c 0;land d 0;land e 0;land f 0;";
    private static final String SIX_ISSUES = "issue i;issue j;issue k;issue l;issue m;issue n;";
    private static final String FIVE_FACTS = "land a 0;fact o a;fact p a;fact q a;fact r a;fact s a;";
    private static final String FIVE_DEEDS = "issue i;deed t i;deed u i;deed v i;deed w i;deed x i;";
    /** One of each: a LAND a, an ISSUE i, a FACT f, a DEED d. */
    private static final String ONE_OF_EACH = "land a 0;issue i;fact f a;deed d i;";
    private static final String TWO_OF_EACH = "land a 0;land b 0;issue i;issue j;fact f a;fact g b;";

    public static void main(String[] args) throws IOException {
        Bounds.open(args);
        leastPlace();
        firstOfTheList();
        firstByteOfNoToken();
        tokenThatDoesNotGoOn();
        theEnd();
        theEndOfFewerBytes();
        nameThatIsThere();
        secondRule();
        secondLaw();
        issueASecondTime();
        noneToldAhead();
        noneOfWhatMustStand();
        numberThatCantBe();
        oneTooMany();
        Check.finish();
    }

    /** LINES with a FAULT of each kind, where there are one of each and five DEEDS. */
    private static final String[] FAULTS = {"issue ^?;", "issue ^a;", "fact g ^zz;", "land b ^5;", "^deed y i;"};

    private static void leastPlace() {
        Bounds.sentence("Terms 1", "FAULTS, the one whose place is least", "of any two kinds, in both orders");
        String ahead = ONE_OF_EACH + "deed t i;deed u i;deed v i;deed w i;";
        for (int first = 1; first <= 5; first++) {
            for (int second = 1; second <= 5; second++) {
                Bounds.fault(ahead + FAULTS[first - 1] + FAULTS[second - 1].replace("^", ""), first);
            }
        }
        Bounds.fault("land a ^5?", 4);
        Bounds.fault("land a ^5", 4);
        Bounds.fault("land a ^5 land", 4);
        Bounds.fault(ONE_OF_EACH + "law a i 1;law a ^i 100;", 2);
        Bounds.fault(ONE_OF_EACH + "rule a i f inner;rule a ^i zz whole;", 2);
        Bounds.fault(ONE_OF_EACH + "rule a i f inner;rule ^zz i f whole;", 3);
        Bounds.fault(ONE_OF_EACH + "fact ^a zz;", 2);
        Bounds.fault(SIX_LANDS + "^land a 5", 5);
    }

    private static void firstOfTheList() {
        Bounds.sentence("Terms 1", "of one place the first of this list");
        Bounds.fault(SIX_LANDS + "issue ^land g 0;", 1);
        Bounds.fault(SIX_ISSUES + "deed d ^issue o;", 1);
        Bounds.fault(FIVE_FACTS + "issue ^fact;", 1);
        Bounds.fault(FIVE_DEEDS + "issue ^deed;", 1);
        Bounds.fault("land a ^500;", 1);
        Bounds.fault("fact f ^abcdefg;", 1);
        Bounds.fault("issue i;deed d i ^deed;", 1);
    }

    private static void firstByteOfNoToken() {
        Bounds.sentence("Terms 1", "1 the first byte that begins no TOKEN");
        Bounds.fault("^?", 1);
        Bounds.fault("^?!", 1);
        Bounds.fault(" ^! ?", 1);
        Bounds.fault("land a^! 0;", 1);
        Bounds.fault("land a ^abcdefg!", 1);
        Bounds.fault("land a 0;^abcdefghi", 1);
    }

    /** Each LINE, TOKEN by TOKEN; behind each TOKEN what may stand there, as in mayStand. */
    private static final String[][] LINES = {
        {"land", "line", "b", "given", "0", "number", ";", "stop"},
        {"issue", "line", "k", "given", ";", "stop"},
        {"fact", "line", "g", "given", "a", "told", ";", "stop"},
        {"rule", "line", "a", "told", "i", "told", "f", "told", "whole", "way", ";", "stop"},
        {"law", "line", "a", "told", "i", "told", "7", "number", ";", "stop"},
        {"deed", "line", "d", "given", "i", "told", "j", "more", "k", "more", ";", "more"}};

    private static void tokenThatDoesNotGoOn() {
        Bounds.sentence("Terms 1", "TOKEN with which no TEXT goes on (its first byte", "each TOKEN at each place of each LINE");
        String[] tokens = {";", "1", "12", "zz", "?", "land", "issue", "fact", "rule", "law", "deed", "whole", "inner"};
        for (String[] line : LINES) {
            StringBuilder ahead = new StringBuilder("land a 0;issue i;issue j;issue k ; fact f a;");
            if (line[0].equals("issue")) {
                ahead = new StringBuilder("land a 0;issue i;");
            }
            for (int i = 0; i < line.length; i += 2) {
                for (String token : tokens) {
                    int kind = faultOf(line[i + 1], token);
                    if (kind != 0) {
                        Bounds.fault(ahead + "^" + token, kind);
                        Bounds.fault(ahead + "\n ^" + token + " ?", kind);
                    }
                }
                ahead.append(line[i]).append(' ');
            }
            Check.due("desk of [" + ahead + "] is no fault", Check.read(ahead.toString()) > 0, true);
        }
    }

    /** The kind of FAULT, 0 if there is none. */
    private static int faultOf(String place, String token) {
        boolean name = token.equals("zz");
        boolean number = token.equals("1") || token.equals("12");
        switch (place) {
            case "line":
                return token.matches("land|issue|fact|rule|law|deed") ? 0 : 1;
            case "given":
                return name ? 0 : 1;
            case "told":
                return name ? 3 : 1;
            case "more":
                return token.equals(";") ? 0 : name ? 3 : 1;
            case "way":
                return token.matches("whole|inner") ? 0 : 1;
            case "number":
                return number ? 0 : 1;
            default:
                return token.equals(";") ? 0 : 1;
        }
    }

    private static void theEnd() {
        Bounds.sentence("Terms 1", "the end: how many bytes there are");
        for (String[] line : LINES) {
            StringBuilder ahead = new StringBuilder(line[0].equals("issue") ? "land a 0;" : "land a 0;issue i;issue j;issue k;fact f a;");
            for (int i = 0; i + 2 < line.length; i += 2) {
                ahead.append(line[i]);
                Bounds.fault(ahead + "^", 1);
                Bounds.fault(ahead + "  \n^", 1);
                ahead.append(' ');
            }
            Check.due("desk of [" + ahead + ";] is no fault", Check.read(ahead + ";") > 0, true);
        }
        Bounds.fault("land" + Bounds.blanks(695) + "^", 1);
        Bounds.fault("land" + Bounds.blanks(696) + "^", 1);
    }

    private static void theEndOfFewerBytes() {
        Bounds.sentence("Terms 1", "the end: how many bytes there are", "those that are read, not all on THE TAPE");
        String text = "land abcdef 12;";
        for (int n = 4; n < 13; n++) {
            RenvoiDesk x = new RenvoiDesk();
            Check.feed(x, text);
            Check.due("desk(" + n + ") of [" + text + "]", x.desk(n), Check.fault(n, 1));
        }
        RenvoiDesk x = new RenvoiDesk();
        Check.feed(x, "issue i; ?");
        Check.due("desk(9): the end is no fault behind a line", x.desk(9), 1);
        Check.feed(x, "land a 12;");
        Check.due("desk(8): 1 is all of the number", x.desk(8), Check.fault(8, 1));
        Check.feed(x, "land abcdefg");
        Check.due("desk(11): six letters are all of the word", x.desk(11), Check.fault(11, 1));
    }

    private static void nameThatIsThere() {
        Bounds.sentence("Terms 1", "2 a NAME given that is there");
        Bounds.fault("land a 0;land ^a 0;", 2);
        Bounds.fault("land a 0;land b 0;land ^a", 2);
        Bounds.fault("land a 0;land b 0;issue i;deed d i;fact f a;issue ^f;", 2);
        Bounds.fault("issue i;deed ^i i;", 2);
        Bounds.fault("land a 0;fact ^a a;", 2);
        Bounds.fault("land zz 0;issue ^zz", 2);
        Bounds.sound("land zz 0;issue z;issue zzz;", 3);
    }

    private static void secondRule() {
        Bounds.sentence("Terms 1", "the ISSUE of a second rule");
        Bounds.fault(TWO_OF_EACH + "rule a i f whole;rule a ^i f whole;", 2);
        Bounds.fault(TWO_OF_EACH + "rule a i f whole;rule a ^i g inner;", 2);
        Bounds.fault(TWO_OF_EACH + "rule a i f inner;rule b i f inner;rule a j f inner;rule a ^i", 2);
        Bounds.fault(TWO_OF_EACH + "rule b j g inner;law b j 1;rule b ^j g inner;", 2);
        Bounds.sound(TWO_OF_EACH + "rule a i f whole;rule a j f whole;rule b i f whole;rule b j f whole;", 10);
        Bounds.sound(TWO_OF_EACH + "law a i 1;rule a i f whole;", 8);
    }

    private static void secondLaw() {
        Bounds.sentence("Terms 1", "a second law of a LAND on it");
        Bounds.fault(TWO_OF_EACH + "law a i 1;law a ^i 1;", 2);
        Bounds.fault(TWO_OF_EACH + "law a i 0;law a ^i 7;", 2);
        Bounds.fault(TWO_OF_EACH + "law a i 0;law a ^i 0;", 2);
        Bounds.fault(TWO_OF_EACH + "law b j 9;law a j 9;law b i 9;law b ^j", 2);
        Bounds.sound(TWO_OF_EACH + "law a i 1;law a j 1;law b i 1;law b j 1;", 10);
        Bounds.sound(TWO_OF_EACH + "rule a i f whole;law a i 0;", 8);
        String full = SIX_LANDS + SIX_ISSUES;
        Bounds.fault(full + "law f n 0;law a i 0;law e n 0;law f m 0;law f ^n 0;", 2);
        RenvoiDesk x = Check.told(TWO_OF_EACH + "law a i 1;");
        Check.due("a law of the text ahead is none", Check.desk(x, TWO_OF_EACH + "law a i 1;"), 7);
    }

    private static void issueASecondTime() {
        Bounds.sentence("Terms 1", "an ISSUE of a DEED a second time");
        Bounds.fault(TWO_OF_EACH + "deed d i ^i;", 2);
        Bounds.fault(TWO_OF_EACH + "deed d i j ^i;", 2);
        Bounds.fault(TWO_OF_EACH + "deed d j i ^i", 2);
        Bounds.fault(TWO_OF_EACH + "deed d i j ^j zz;", 2);
        Bounds.sound(TWO_OF_EACH + "deed d i j;deed e i j;deed h i;", 9);
    }

    private static void noneToldAhead() {
        Bounds.sentence("Terms 1", "3 a NAME that is none told ahead");
        Bounds.fault("fact f ^a;", 3);
        Bounds.fault("fact f ^a;land a 0;", 3);
        Bounds.fault("rule ^a i f whole;land a 0;issue i;fact f a;", 3);
        Bounds.fault("land a 0;rule a ^i f whole;issue i;", 3);
        Bounds.fault("land a 0;issue i;rule a i ^f whole;fact f a;", 3);
        Bounds.fault("law ^a i 1;", 3);
        Bounds.fault("land a 0;law a ^i 1;", 3);
        Bounds.fault("deed d ^i;issue i;", 3);
        Bounds.fault("issue i;deed d i ^j;issue j;", 3);
        Bounds.fault("land ab 0;fact f ^a;", 3);
        Bounds.fault("land a 0;fact f ^ab;", 3);
        RenvoiDesk x = Check.told(ONE_OF_EACH);
        Check.due("names of the text ahead are none", Check.desk(x, "fact f a;"), Check.fault(7, 3));
        Check.desk(x, "land b 0;?");
        Check.due("nor those of a text with a fault", Check.desk(x, "fact f b;"), Check.fault(7, 3));
    }

    private static void noneOfWhatMustStand() {
        Bounds.sentence("Terms 1", "or none of what must stand there");
        String[][] wrong = {{"fact g ", "i f d g"}, {"rule ", "i f d"}, {"rule a ", "a f d"}, {"rule a i ", "a i d"},
            {"law ", "i f d"}, {"law a ", "a f d"}, {"deed e ", "a f d e"}, {"deed e i ", "a f d e"}};
        for (String[] each : wrong) {
            for (String name : each[1].split(" ")) {
                Bounds.fault(ONE_OF_EACH + each[0] + "^" + name, 3);
                Bounds.fault(ONE_OF_EACH + each[0] + "^" + name + " zz zz zz;", 3);
            }
        }
    }

    private static void numberThatCantBe() {
        Bounds.sentence("Terms 1", "4 a NUMBER that can't be");
        Bounds.sound("land a 4;", 1);
        Bounds.fault("land a ^5;", 4);
        Bounds.fault("land a ^05;", 4);
        Bounds.fault("land a ^10;", 4);
        Bounds.fault("land a ^40;", 4);
        Bounds.fault("land a ^99;", 4);
        Bounds.fault("land a 4;land b 0;land c  \n^9;", 4);
        Bounds.sound("land a 4;issue i;law a i 99;", 3);
    }

    private static void oneTooMany() {
        Bounds.sentence("Terms 1", "5 the WORD land, issue, fact, deed of one too many");
        Bounds.fault(SIX_LANDS + "^land", 5);
        Bounds.fault(SIX_LANDS + "issue i; ^land g 0;", 5);
        Bounds.fault(SIX_LANDS + "^land ;", 5);
        Bounds.fault(SIX_ISSUES + "^issue", 5);
        Bounds.fault(SIX_ISSUES + "land a 0;\n^issue o;", 5);
        Bounds.fault(FIVE_FACTS + "^fact", 5);
        Bounds.fault(FIVE_FACTS + "issue i; ^fact t a;", 5);
        Bounds.fault(FIVE_DEEDS + "^deed", 5);
        Bounds.fault(FIVE_DEEDS + "land a 0; ^deed y i;", 5);
        Bounds.sound(SIX_LANDS + SIX_ISSUES + "fact o a;fact p a;fact q a;fact r a;fact s a;"
                + "deed t i;deed u i;deed v i;deed w i;deed x i;", 22);
        RenvoiDesk x = Check.told(SIX_LANDS);
        Check.due("those of the text ahead do not count", Check.desk(x, "land g 0;"), 1);
    }
}
