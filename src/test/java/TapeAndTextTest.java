/** Promises 1 to 3: a new object, feed, desk with every FAULT. */
public final class TapeAndTextTest {
    public static void main(String[] args) {
        newObject();
        feed();
        desk();
        lines();
        tokens();
        grammar();
        namesTwice();
        namesUnknown();
        numbers();
        tooMany();
        leastPlace();
        Check.finish();
    }

    private static void newObject() {
        RenvoiDesk x = new RenvoiDesk();
        for (int what = 0; what <= 7; what++) {
            Check.due("new: count(" + what + ")", x.count(what), 0);
        }
        Check.due("new: land(0, 0)", x.land(0, 0), -1);
        Check.due("new: fact(0)", x.fact(0), -1);
        Check.due("new: inner(0, 0)", x.inner(0, 0), -1);
        Check.due("new: head(0)", x.head(0), -1);
        Check.due("new: deed(0)", x.deed(0), -1);
        Check.ruleThrows("new: rule(0, 0, 0)", x, 0, 0, 0);
        Check.due("new: keep(0, true)", x.keep(0, true), false);
        Check.due("new: undo()", x.undo(), -1);
        Check.due("NONE", RenvoiDesk.NONE, -1);
    }

    private static void feed() {
        RenvoiDesk x = new RenvoiDesk();
        for (int i = 1; i <= 35; i++) {
            Check.due("feed " + i, x.feed(0, 0, 0, 0, 0), 20 * i);
        }
        Check.due("feed of too many", x.feed(1, 2, 3, 4, 5), -1);
        Check.due("count(6) of a full tape", x.count(6), 700);
        Check.due("desk of a full tape of zeros", x.desk(700), Check.fault(0, 1));
        Check.due("count(6) behind desk", x.count(6), 0);
        Check.due("feed behind desk", x.feed(0, 0, 0, 0, 0), 20);

        StringBuilder text = new StringBuilder("land a 1;");
        while (text.length() < 691) {
            text.append(' ');
        }
        text.append("land b 2;");
        Check.due("a text of 700 bytes", Check.read(text.toString()), 2);
    }

    private static void desk() {
        RenvoiDesk x = new RenvoiDesk();
        Check.feed(x, "land a 1;");
        Check.due("desk(21)", x.desk(21), -1);
        Check.due("desk(-1)", x.desk(-1), -1);
        Check.due("the tape stays behind NONE", x.count(6), 20);
        Check.due("desk(9)", x.desk(9), 1);
        Check.due("the tape is empty, also behind the n-th byte", x.count(6), 0);
        Check.due("count(0)", x.count(0), 1);

        x.think(0, 3);
        x.keep(1, false);
        Check.due("desk with a fault", Check.desk(x, "land b 1;oh"), Check.fault(9, 1));
        Check.due("the tape is empty behind a fault", x.count(6), 0);
        Check.due("lands stay behind a fault", x.count(0), 1);
        Check.due("theory stays behind a fault", x.land(0, 0), 3);
        Check.due("acts stay behind a fault", x.count(5), 1);
        Check.due("keeps stay behind a fault", x.keep(1, true), true);

        x.think(0, 2);
        Check.due("desk anew", Check.desk(x, "issue i;"), 1);
        Check.due("lands are gone", x.count(0), 0);
        Check.due("issues are there", x.count(1), 1);
        Check.due("nothing can be undone behind desk", x.count(5), 0);
        Check.due("undo() behind desk", x.undo(), -1);
        Check.due("nothing is kept behind desk", x.keep(1, true), false);

        Check.due("desk(0)", x.desk(0), 0);
        Check.due("issues are gone", x.count(1), 0);
        x.feed(-1, -1, -1, -1, -1);
        Check.due("desk(0) of what is no text", x.desk(0), 0);
        Check.due("desk(0) empties the tape", x.count(6), 0);
    }

    private static void lines() {
        Check.due("no line", Check.read(" \n "), 0);
        Check.due("every line", Check.read("land a 0;issue i;fact f a;rule a i f whole;law a i 7;deed d i;"), 6);
        Check.due("no blanks but where needed", Check.read("land a4;issue i;law a i00;"), 3);
        Check.due("blanks and lines", Check.read("\nland\na 4 ;\n\n issue i ; "), 2);
        Check.due("names of six letters", Check.read("land abcdef 0;land abcdeg 1;land bcdef 1;"), 3);
        Check.due("same name begun alike", Check.read("land a 0;land aa 1;land aaa 1;"), 3);
        RenvoiDesk x = Check.told("land a 04;issue i;law a i 09;");
        Check.due("04 is 4", x.land(0, 0), 4);
        Check.due("09 is 9", x.inner(0, 0), 9);
        x = Check.told("land z 4;issue i;issue j;law z j 99;deed lands j i;");
        Check.due("99", x.inner(0, 1), 99);
        Check.due("issues of a deed in any order", x.deed(0), 3);
    }

    private static void tokens() {
        Check.due("a word of seven", Check.read("land abcdefg 0;"), Check.fault(5, 1));
        Check.due("a word of thirty-nine that ends like land",
                Check.read("aaaaaaaaaaaaaaaaaaaaaaaaaaaaaaaaaaaland a 1;"), Check.fault(0, 1));
        Check.due("a number of three", Check.read("land a 000;"), Check.fault(7, 1));
        Check.due("a number of twelve", Check.read("land a 100000000001;"), Check.fault(7, 1));
        Check.due("a great letter", Check.read("land A 0;"), Check.fault(5, 1));
        Check.due("a tab", Check.read("land\ta 0;"), Check.fault(4, 1));
        Check.due("a carriage return", Check.read("land a 0;\r"), Check.fault(9, 1));
        Check.due("byte 225", Check.read("land " + (char) 225 + " 0;"), Check.fault(5, 1));
        Check.due("byte 0", Check.read("land a 0;" + (char) 0), Check.fault(9, 1));
        Check.due("signs beside the letters", Check.read("land a 0;`"), Check.fault(9, 1));
        Check.due("signs beside the letters", Check.read("land a 0;{"), Check.fault(9, 1));
        Check.due("signs beside the digits", Check.read("land a /"), Check.fault(7, 1));
        Check.due("signs beside the digits", Check.read("land a :"), Check.fault(7, 1));
        Check.due("two stops are two tokens", Check.read("land a 0;;"), Check.fault(9, 1));
        Check.due("text is cut off by n", cutOff("land a 0;land b", 9), 1);
        Check.due("a number is cut off by n", cutOff("land a 12;", 8), Check.fault(8, 1));
        Check.due("a token is cut off by n", cutOff("land abcdefg", 11), Check.fault(11, 1));
    }

    private static int cutOff(String text, int n) {
        RenvoiDesk x = new RenvoiDesk();
        Check.feed(x, text);
        return x.desk(n);
    }

    private static void grammar() {
        Check.due("a name begins no line", Check.read("a;"), Check.fault(0, 1));
        Check.due("whole begins no line", Check.read("whole;"), Check.fault(0, 1));
        Check.due("inner begins no line", Check.read("inner;"), Check.fault(0, 1));
        Check.due("a number begins no line", Check.read("1;"), Check.fault(0, 1));
        Check.due("end in land", Check.read("land"), Check.fault(4, 1));
        Check.due("end in land, behind blanks", Check.read("land a  "), Check.fault(8, 1));
        Check.due("end ahead of ;", Check.read("land a 0"), Check.fault(8, 1));
        Check.due("no theory", Check.read("land a;"), Check.fault(6, 1));
        Check.due("a word as theory", Check.read("land a b;"), Check.fault(7, 1));
        Check.due("two theories", Check.read("land a 0 1;"), Check.fault(9, 1));
        Check.due("a number as name", Check.read("issue 1;"), Check.fault(6, 1));
        Check.due("issue of two names", Check.read("issue a b;"), Check.fault(8, 1));
        String[] keywords = {"land", "issue", "fact", "rule", "law", "deed", "whole", "inner"};
        for (String keyword : keywords) {
            Check.due(keyword + " is no name given", Check.read("issue " + keyword + ";"), Check.fault(6, 1));
            Check.due(keyword + " is no name told", Check.read("rule " + keyword + " i f whole;"), Check.fault(5, 1));
        }
        String ahead = "land a 0;issue i;fact f a;";
        Check.due("fact without a land", Check.read("land a 0;fact f;"), Check.fault(15, 1));
        Check.due("rule without a way", Check.read(ahead + "rule a i f;"), Check.fault(36, 1));
        Check.due("rule with another way", Check.read(ahead + "rule a i f f;"), Check.fault(37, 1));
        Check.due("rule with law as way", Check.read(ahead + "rule a i f law;"), Check.fault(37, 1));
        Check.due("rule with two ways", Check.read(ahead + "rule a i f inner whole;"), Check.fault(43, 1));
        Check.due("law without a number", Check.read(ahead + "law a i;"), Check.fault(33, 1));
        Check.due("deed without an issue", Check.read(ahead + "deed d;"), Check.fault(32, 1));
        Check.due("deed that does not end", Check.read(ahead + "deed d i"), Check.fault(34, 1));
        Check.due("deed with a number", Check.read(ahead + "deed d i 1;"), Check.fault(35, 1));
        Check.due("deed with a keyword", Check.read(ahead + "deed d i deed;"), Check.fault(35, 1));
    }

    private static void namesTwice() {
        String ahead = "land a 0;issue i;fact f a;deed d i;";
        for (String name : new String[] {"a", "i", "f", "d"}) {
            Check.due("land " + name, Check.read(ahead + "land " + name + " 0;"), Check.fault(40, 2));
            Check.due("issue " + name, Check.read(ahead + "issue " + name + ";"), Check.fault(41, 2));
            Check.due("fact " + name, Check.read(ahead + "fact " + name + " a;"), Check.fault(40, 2));
            Check.due("deed " + name, Check.read(ahead + "deed " + name + " i;"), Check.fault(40, 2));
        }
        Check.due("a second rule", Check.read(ahead + "rule a i f whole;rule a i f whole;"), Check.fault(59, 2));
        Check.due("a second law", Check.read(ahead + "law a i 5;law a i 5;"), Check.fault(51, 2));
        Check.due("a second law behind 0", Check.read(ahead + "law a i 0;law a i 5;"), Check.fault(51, 2));
        Check.due("law and rule", Check.read(ahead + "law a i 0;rule a i f whole;"), 6);
        Check.due("an issue a second time", Check.read("issue i;issue j;deed d j i j;"), Check.fault(27, 2));
        Check.due("a second law, others between", Check.read("land a 0;land b 0;issue i;law a i 5;law b i 5;law a i 5;"),
                Check.fault(52, 2));
        Check.due("laws of unlike lands and issues",
                Check.read("land a 0;land b 0;issue i;issue j;law a i 1;law a j 1;law b i 1;law b j 1;"), 8);
        Check.due("names are free again in the next text", twoTexts(), 2);
    }

    private static int twoTexts() {
        RenvoiDesk x = Check.told("land a 0;issue i;law a i 1;");
        Check.due("laws are free again", Check.desk(x, "land a 0;issue i;law a i 1;"), 3);
        return Check.desk(x, "issue a;land i 3;");
    }

    private static void namesUnknown() {
        String ahead = "land a 0;issue i;fact f a;deed d i;";
        Check.due("fact g x", Check.read(ahead + "fact g x;"), Check.fault(42, 3));
        Check.due("fact g i", Check.read(ahead + "fact g i;"), Check.fault(42, 3));
        Check.due("fact g g", Check.read(ahead + "fact g g;"), Check.fault(42, 3));
        Check.due("rule x", Check.read(ahead + "rule x i f whole;"), Check.fault(40, 3));
        Check.due("rule i", Check.read(ahead + "rule i i f whole;"), Check.fault(40, 3));
        Check.due("rule a a", Check.read(ahead + "rule a a f whole;"), Check.fault(42, 3));
        Check.due("rule a i i", Check.read(ahead + "rule a i i whole;"), Check.fault(44, 3));
        Check.due("law f", Check.read(ahead + "law f i 1;"), Check.fault(39, 3));
        Check.due("law a f", Check.read(ahead + "law a f 1;"), Check.fault(41, 3));
        Check.due("deed e d", Check.read(ahead + "deed e d;"), Check.fault(42, 3));
        Check.due("deed e e", Check.read(ahead + "deed e e;"), Check.fault(42, 3));
        Check.due("deed e i x", Check.read(ahead + "deed e i x;"), Check.fault(44, 3));
        Check.due("told behind", Check.read("fact f a;land a 0;"), Check.fault(7, 3));
    }

    private static void numbers() {
        for (int theory = 0; theory <= 99; theory++) {
            Check.due("land a " + theory, Check.read("land a " + theory + ";"), theory <= 4 ? 1 : Check.fault(7, 4));
            Check.due("law a i " + theory, Check.read("land a 0;issue i;law a i " + theory + ";"), 3);
        }
    }

    private static void tooMany() {
        String lands = "land a 0;land b 0;land c 0;land d 0;land e 0;land f 0;";
        Check.due("six lands", Check.read(lands), 6);
        Check.due("seven lands", Check.read(lands + "land a 9;"), Check.fault(54, 5));
        Check.due("land alone as the seventh", Check.read(lands + "land"), Check.fault(54, 5));
        String issues = "issue a;issue b;issue c;issue d;issue e;issue f;";
        Check.due("six issues", Check.read(issues), 6);
        Check.due("seven issues", Check.read(issues + "issue g;"), Check.fault(48, 5));
        Check.due("a deed of six issues", Check.read(issues + "deed g f e d c b a;"), 7);
        Check.due("a deed of seven", Check.read(issues + "deed g f e d c b a a;"), Check.fault(67, 2));
        String facts = "land a 0;fact b a;fact c a;fact d a;fact e a;fact f a;";
        Check.due("five facts", Check.read(facts), 6);
        Check.due("six facts", Check.read(facts + "fact g a;"), Check.fault(54, 5));
        String deeds = "issue a;deed b a;deed c a;deed d a;deed e a;deed f a;";
        Check.due("five deeds", Check.read(deeds), 6);
        Check.due("six deeds", Check.read(deeds + "deed g a;"), Check.fault(53, 5));
    }

    private static void leastPlace() {
        Check.due("kind 4 ahead of 1", Check.read("land a 7 ?"), Check.fault(7, 4));
        Check.due("kind 3 ahead of the end", Check.read("rule z"), Check.fault(5, 3));
        Check.due("kind 2 ahead of 3", Check.read("land a 0;fact a b;"), Check.fault(14, 2));
        Check.due("kind 1 within a line ahead of 2", Check.read("land a 0 ? land a 0;"), Check.fault(9, 1));
    }
}
