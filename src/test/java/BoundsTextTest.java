import java.io.IOException;

/** Boundary cases of Terms 1 (TEXT): what may stand in it, and how much of it. */
public final class BoundsTextTest {
    private static final String[] KEYWORDS = {"land", "issue", "fact", "rule", "law", "deed", "whole", "inner"};
    private static final String SIX_LANDS = "land a 0;land b 0;land c 0;land d 0;land e 0;land f 0;";
    private static final String SIX_ISSUES = "issue i;issue j;issue k;issue l;issue m;issue n;";
    private static final String FIVE_FACTS = "land a 0;fact o a;fact p a;fact q a;fact r a;fact s a;";
    private static final String FIVE_DEEDS = "issue i;deed t i;deed u i;deed v i;deed w i;deed x i;";
    /** One of each: a LAND a, an ISSUE i, a FACT f, a DEED d. */
    private static final String ONE_OF_EACH = "land a 0;issue i;fact f a;deed d i;";

    public static void main(String[] args) throws IOException {
        Bounds.open(args);
        noLine();
        sixLands();
        theories();
        sixIssues();
        fiveFacts();
        factOfLand();
        ruleOfThree();
        ruleWays();
        lawOfTwo();
        lawNumbers();
        fiveDeeds();
        deedOfIssues();
        deedNeedsOne();
        numberedAsTold();
        namesAreNoKeywords();
        namesNearKeywords();
        noTwoAlike();
        oneLetterIsEnough();
        allNamesAreKnown();
        Check.finish();
    }

    // ---- Terms 1: TEXT

    private static void noLine() {
        Bounds.sentence("Terms 1", "TEXT: { LINE }", "none is enough");
        RenvoiDesk x = Check.told(Bounds.SMALL);
        Check.due("desk(0)", x.desk(0), 0);
        for (int what = 0; what <= 7; what++) {
            Check.due("count(" + what + ")", x.count(what), 0);
        }
    }

    private static void sixLands() {
        Bounds.sentence("Terms 1", "land NAME THEORY ; (6 at most");
        Bounds.sound(SIX_LANDS, 6);
        Check.due("count(0)", Check.told(SIX_LANDS).count(0), 6);
        Bounds.fault(SIX_LANDS + "^land g 0;", 5);
    }

    private static void theories() {
        Bounds.sentence("Terms 1", "(6 at most; 0 to 4)");
        for (int theory = 0; theory <= 4; theory++) {
            RenvoiDesk x = Check.told("land a " + theory + ";land b 0" + theory + ";");
            Check.due("theory " + theory, x.land(0, 0), theory);
            Check.due("theory 0" + theory, x.land(1, 0), theory);
        }
        for (int theory = 5; theory <= 99; theory++) {
            Bounds.fault("land a ^" + theory + ";", 4);
        }
    }

    private static void sixIssues() {
        Bounds.sentence("Terms 1", "issue NAME ; (6 at most)");
        Bounds.sound(SIX_ISSUES, 6);
        Check.due("count(1)", Check.told(SIX_ISSUES).count(1), 6);
        Bounds.fault(SIX_ISSUES + "^issue o;", 5);
    }

    private static void fiveFacts() {
        Bounds.sentence("Terms 1", "fact NAME NAME ; (5 at most");
        Bounds.sound(FIVE_FACTS, 6);
        Check.due("count(2)", Check.told(FIVE_FACTS).count(2), 5);
        Bounds.fault(FIVE_FACTS + "^fact t a;", 5);
    }

    private static void factOfLand() {
        Bounds.sentence("Terms 1", "(5 at most; a LAND)");
        RenvoiDesk x = Check.told(SIX_LANDS + "fact o f;fact p a;");
        Check.due("the last land", x.fact(0), 5);
        Check.due("the first land", x.fact(1), 0);
        Bounds.fault(ONE_OF_EACH + "fact g ^i;", 3);
        Bounds.fault(ONE_OF_EACH + "fact g ^f;", 3);
        Bounds.fault(ONE_OF_EACH + "fact g ^d;", 3);
    }

    private static void ruleOfThree() {
        Bounds.sentence("Terms 1", "rule NAME NAME NAME WAY ; (a LAND, an ISSUE, a FACT", "LAND, ISSUE, FACT");
        RenvoiDesk x = Check.told(SIX_LANDS + SIX_ISSUES + "fact o a;fact p b;fact q c;fact r d;fact s e;"
                + "rule f n s whole;rule a i o whole;rule a n p whole;rule f i q whole;");
        Check.due("the last of each", x.rule(5, 5, 0), 4);
        Check.due("the first of each", x.rule(0, 0, 0), 0);
        Check.due("first and last", x.rule(0, 5, 0), 1);
        Check.due("last and first", x.rule(5, 0, 0), 2);
        for (String wrong : new String[] {"i", "f", "d"}) {
            Bounds.fault(ONE_OF_EACH + "rule ^" + wrong + " i f whole;", 3);
        }
        for (String wrong : new String[] {"a", "f", "d"}) {
            Bounds.fault(ONE_OF_EACH + "rule a ^" + wrong + " f whole;", 3);
        }
        for (String wrong : new String[] {"a", "i", "d"}) {
            Bounds.fault(ONE_OF_EACH + "rule a i ^" + wrong + " whole;", 3);
        }
    }

    private static void ruleWays() {
        Bounds.sentence("Terms 1", "(a LAND, an ISSUE, a FACT; WAY: whole or inner)", "WAY");
        Check.due("whole", Check.told(ONE_OF_EACH + "rule a i f whole;").rule(0, 0, 1), 1);
        Check.due("inner", Check.told(ONE_OF_EACH + "rule a i f inner;").rule(0, 0, 1), 0);
        for (String wrong : new String[] {";", "f;", "zz;", "1;", "land;", "law;", "wholes;", "inne;", "whol;"}) {
            Bounds.fault(ONE_OF_EACH + "rule a i f ^" + wrong, 1);
        }
        Bounds.fault(ONE_OF_EACH + "rule a i f whole ^inner;", 1);
    }

    private static void lawOfTwo() {
        Bounds.sentence("Terms 1", "law NAME NAME NUMBER ; (a LAND, an ISSUE");
        RenvoiDesk x = Check.told(SIX_LANDS + SIX_ISSUES + "law f n 4;law a i 1;law a n 2;law f i 3;");
        Check.due("the last of each", x.inner(5, 5), 4);
        Check.due("the first of each", x.inner(0, 0), 1);
        Check.due("first and last", x.inner(0, 5), 2);
        Check.due("last and first", x.inner(5, 0), 3);
        for (String wrong : new String[] {"i", "f", "d"}) {
            Bounds.fault(ONE_OF_EACH + "law ^" + wrong + " i 1;", 3);
        }
        for (String wrong : new String[] {"a", "f", "d"}) {
            Bounds.fault(ONE_OF_EACH + "law a ^" + wrong + " 1;", 3);
        }
    }

    private static void lawNumbers() {
        Bounds.sentence("Terms 1", "(a LAND, an ISSUE; 0 to 99)");
        for (int v = 0; v <= 99; v++) {
            Check.due("law " + v, Check.told("land a 0;issue i;law a i " + v + ";").inner(0, 0), v);
        }
        Check.due("law 00", Check.told("land a 0;issue i;law a i 00;").inner(0, 0), 0);
        Bounds.fault("land a 0;issue i;law a i ^100;", 1);
    }

    private static void fiveDeeds() {
        Bounds.sentence("Terms 1", "deed NAME NAME { NAME } ; (5 at most");
        Bounds.sound(FIVE_DEEDS, 6);
        Check.due("count(3)", Check.told(FIVE_DEEDS).count(3), 5);
        Bounds.fault(FIVE_DEEDS + "^deed y i;", 5);
    }

    private static void deedOfIssues() {
        Bounds.sentence("Terms 1", "(5 at most; ISSUES, each once)");
        RenvoiDesk x = Check.told(SIX_ISSUES + "deed d i;deed e n;deed f n m l k j i;deed g i n;");
        Check.due("the first", x.deed(0), 1);
        Check.due("the last", x.deed(1), 32);
        Check.due("all six, the last first", x.deed(2), 63);
        Check.due("the first and the last", x.deed(3), 33);
        for (String wrong : new String[] {"a", "f", "d", "e"}) {
            Bounds.fault(ONE_OF_EACH + "deed e ^" + wrong + ";", 3);
            Bounds.fault(ONE_OF_EACH + "deed e i ^" + wrong + ";", 3);
        }
        Bounds.fault(SIX_ISSUES + "deed d i j k l m n ^i;", 2);
        Bounds.fault(SIX_ISSUES + "deed d i j k l m n ^n;", 2);
        Bounds.fault(SIX_ISSUES + "deed d i j k l m n ^zz;", 3);
    }

    private static void deedNeedsOne() {
        Bounds.sentence("Terms 1", "deed NAME NAME { NAME } ;", "one at least");
        Bounds.sound("issue i;deed d i;", 2);
        Bounds.fault("issue i;deed d^;", 1);
        Bounds.fault("issue i;deed d^", 1);
    }

    private static void numberedAsTold() {
        Bounds.sentence("Terms 1", "LANDS, ISSUES, FACTS, DEEDS are numbered as told");
        RenvoiDesk x = Check.told("issue z;land y 3;issue b;deed x b;land a 1;fact w a;deed c z;fact d y;land e 2;"
                + "law a b 7;rule e z d whole;issue k;deed l k z;");
        Check.due("land y", x.land(0, 0), 3);
        Check.due("land a", x.land(1, 0), 1);
        Check.due("land e", x.land(2, 0), 2);
        Check.due("fact w tells a", x.fact(0), 1);
        Check.due("fact d tells y", x.fact(1), 0);
        Check.due("deed x needs b", x.deed(0), 2);
        Check.due("deed c needs z", x.deed(1), 1);
        Check.due("deed l needs k and z", x.deed(2), 5);
        Check.due("law a b", x.inner(1, 1), 7);
        Check.due("rule e z d", x.rule(2, 0, 0), 1);
    }

    private static void namesAreNoKeywords() {
        Bounds.sentence("Terms 1", "A NAME is a WORD but land, issue, fact, rule, law, deed, whole, inner");
        String[] ahead = {"land ", "issue ", "fact ", "fact g ", "rule ", "rule a ", "rule a i ", "law ", "law a ",
            "deed ", "deed e ", "deed e i "};
        for (String line : ahead) {
            for (String keyword : KEYWORDS) {
                Bounds.fault(ONE_OF_EACH + line + "^" + keyword + " ", 1);
            }
        }
    }

    private static void namesNearKeywords() {
        Bounds.sentence("Terms 1", "A NAME is a WORD but", "all other ones are");
        for (String near : new String[] {"l", "la", "lan", "lands", "aland", "lane", "issues", "issu", "facts", "fac",
            "rules", "rul", "laws", "lav", "deeds", "dee", "wholes", "whol", "inners", "inne", "way", "name", "theory"}) {
            Bounds.sound("land " + near + " 1;fact f " + near + ";", 2);
        }
    }

    private static void noTwoAlike() {
        Bounds.sentence("Terms 1", "no two are alike", "also those of unlike things");
        for (String name : new String[] {"a", "i", "f", "d"}) {
            Bounds.fault(ONE_OF_EACH + "land ^" + name + " 0;", 2);
            Bounds.fault(ONE_OF_EACH + "issue ^" + name + ";", 2);
            Bounds.fault(ONE_OF_EACH + "fact ^" + name + " a;", 2);
            Bounds.fault(ONE_OF_EACH + "deed ^" + name + " i;", 2);
        }
        Bounds.sound("land a 0;land aa 0;land ab 0;land ba 0;land aaaaaa 0;land aaaaab 0;", 6);
        RenvoiDesk x = Check.told(ONE_OF_EACH);
        Check.due("names of the text ahead are free", Check.desk(x, "issue a;land i 0;deed f a;fact d i;"), 4);
        Check.due("also behind a fault", Check.desk(x, "land b 0;issue j;?"), Check.fault(17, 1));
        Check.due("also behind a fault", Check.desk(x, "issue b;land j 0;"), 2);
    }

    private static void oneLetterIsEnough() {
        Bounds.sentence("Terms 1", "no two are alike", "one other letter is enough, at each of the six places; so is one more");
        for (int place = 0; place < 6; place++) {
            for (char one = 'a'; one <= 'z'; one++) {
                for (char two = 'a'; two < one; two++) {
                    String ahead = "mnopqr".substring(0, place);
                    String behind = "mnopqr".substring(place + 1);
                    Bounds.sound("land " + ahead + one + behind + " 0;land " + ahead + two + behind + " 0;", 2);
                    Bounds.sound("land " + ahead + one + " 0;land " + ahead + two + " 0;", 2);
                }
            }
        }
        for (char letter = 'a'; letter <= 'z'; letter++) {
            String six = String.valueOf(letter).repeat(6);
            StringBuilder text = new StringBuilder();
            for (int letters = 1; letters <= 6; letters++) {
                text.append("land ").append(six, 0, letters).append(" 0;");
            }
            Bounds.sound(text.toString(), 6);
        }
    }

    private static void allNamesAreKnown() {
        Bounds.sentence("Terms 1", "LANDS, ISSUES, FACTS, DEEDS are numbered as told", "all 22 NAMES that there may be are known");
        String deeds = "deed t i;deed u i;deed v i;deed w i;deed x i;";
        String facts = "fact o a;fact p b;fact q c;fact r d;fact s e;";
        RenvoiDesk x = Check.told(SIX_ISSUES + deeds + SIX_LANDS + facts + "rule f n s whole;rule a i o whole;");
        Check.due("the last fact told last", x.rule(5, 5, 0), 4);
        Check.due("the first of each", x.rule(0, 0, 0), 0);
        x = Check.told(SIX_ISSUES + deeds + "land a 0;" + facts.replaceAll(" [a-e];", " a;")
                + "land b 0;land c 0;land d 0;land e 0;land f 0;law f n 7;");
        Check.due("the last land told last", x.inner(5, 5), 7);
        x = Check.told(SIX_LANDS + facts + "issue i;" + deeds + "issue j;issue k;issue l;issue m;issue n;law f n 8;");
        Check.due("the last issue told last", x.inner(5, 5), 8);
        Bounds.fault(SIX_LANDS + facts + "issue i;" + deeds + "issue j;issue k;issue l;issue m;issue ^x;", 2);
        Bounds.fault(SIX_LANDS + facts + SIX_ISSUES + "deed t i;deed u i;deed v i;deed w i;deed ^n i;", 2);
    }
}
