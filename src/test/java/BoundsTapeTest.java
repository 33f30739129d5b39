import java.io.IOException;

/** Boundary cases of Terms 1 (THE TAPE, TOKENS) and of promises 1 and 2. */
public final class BoundsTapeTest {
    private static final int FOUR_BLANKS = 0x20202020;

    public static void main(String[] args) throws IOException {
        Bounds.open(args);
        tapeHas700();
        blanksPart();
        blanksMeanNothingElse();
        wordsOfSmallLetters();
        wordsStandTogether();
        wordsOf1To6();
        numbersOfDigits();
        numbersOf1Or2();
        stopAlone();
        longerOnes();
        allElse();
        newObject();
        newObjectsAreApart();
        feedTwenty();
        feedBehind();
        feedHighestFirst();
        feedHowMany();
        feedNone();
        feedNoneCome();
        Check.finish();
    }

    // ---- Terms 1: THE TAPE

    private static void tapeHas700() {
        Bounds.sentence("Terms 1", "THE TAPE has 700 bytes");
        RenvoiDesk x = new RenvoiDesk();
        feedBlanks(x, 34);
        Check.due("count(6) of 34 feeds", x.count(6), 680);
        feedBlanks(x, 1);
        Check.due("count(6) of 35 feeds", x.count(6), 700);
        feedBlanks(x, 1);
        Check.due("count(6) of 36 feeds", x.count(6), 700);
        Check.due("a line up to the 700th byte", Check.read("land a 1;" + Bounds.blanks(682) + "land b 2;"), 2);
        Check.due("a fault at the 700th byte", Check.read(Bounds.blanks(699) + "?"), Check.fault(699, 1));
        Check.due("the end of 700 bytes", Check.read("land" + Bounds.blanks(696)), Check.fault(700, 1));
    }

    private static void feedBlanks(RenvoiDesk x, int times) {
        for (int i = 0; i < times; i++) {
            x.feed(FOUR_BLANKS, FOUR_BLANKS, FOUR_BLANKS, FOUR_BLANKS, FOUR_BLANKS);
        }
    }

    private static void blanksPart() {
        Bounds.sentence("Terms 1", "Blanks, 32, 10, part TOKENS");
        Bounds.sound("land a 1;", 1);
        Bounds.sound("land\na\n1;", 1);
        Bounds.fault("^landa 1;", 1);
        Bounds.fault("^la nd a 1;", 1);
        Bounds.fault("^la\nnd a 1;", 1);
        Bounds.fault("land a 1;issue i;law a i 1 ^2;", 1);
        Bounds.fault("land a 1;issue i;law a i 1\n^2;", 1);
    }

    private static void blanksMeanNothingElse() {
        Bounds.sentence("Terms 1", "and mean nothing else");
        Bounds.sound("", 0);
        Bounds.sound(" ", 0);
        Bounds.sound("\n", 0);
        Bounds.sound(Bounds.blanks(700), 0);
        Bounds.sound("\n".repeat(700), 0);
        Bounds.sound(" \n land \n\n  a \n 1 \n ; \n ", 1);
        Bounds.sound("land a1;issue i;law a i7;", 3);
    }

    // ---- Terms 1: TOKENS

    private static void wordsOfSmallLetters() {
        Bounds.sentence("Terms 1", "TOKENS: WORDS (small letters");
        for (char letter = 'a'; letter <= 'z'; letter++) {
            Bounds.sound("issue " + letter + ";", 1);
            Bounds.fault("issue ^" + (char) (letter - 32) + ";", 1);
            Bounds.fault("issue ^" + (char) (letter + 128) + ";", 1);
        }
        Bounds.fault("issue ^`;", 1);
        Bounds.fault("issue ^{;", 1);
    }

    private static void wordsStandTogether() {
        Bounds.sentence("Terms 1", "each that stand together");
        Bounds.fault("land a 1;fact f ^aa;", 3);
        Bounds.sound("land a 1;land aa 1;fact f aa;", 3);
        Bounds.sound("land abcdef 1;fact f abcdef;", 2);
        Bounds.fault("issue i^2;", 1);
        Bounds.fault("land^4 a 1;", 1);
        Bounds.fault("land a 1^b;", 1);
    }

    private static void wordsOf1To6() {
        Bounds.sentence("Terms 1", "small letters, each that stand together; 1 to 6");
        Bounds.sound("issue a;", 1);
        Bounds.sound("issue abcdef;", 1);
        Bounds.fault("issue ^abcdefg;", 1);
        Bounds.fault("issue ^" + "a".repeat(12) + ";", 1);
        Bounds.fault("issue ^" + "a".repeat(694), 1);
        Bounds.fault("land abcdef 0;fact f ^abcdefg;", 1);
        Bounds.fault("land bcdefg 0;fact f ^abcdefg;", 1);
        Bounds.fault("rule ^abcdefg i f whole;", 1);
        Bounds.fault("issue ^aissues;", 1);
        Bounds.sound("issue abcdef;issue abcdeg;issue bbcdef;issue bcdef;issue abcde;issue a;", 6);
    }

    private static void numbersOfDigits() {
        Bounds.sentence("Terms 1", "NUMBERS (digits, likewise");
        for (char digit = '0'; digit <= '9'; digit++) {
            RenvoiDesk x = Check.told("land a 1;issue i;law a i " + digit + ";");
            Check.due("the digit " + digit, x.inner(0, 0), digit - '0');
            Bounds.fault("land a 1;issue i;law a i ^" + (char) (digit + 128) + ";", 1);
        }
        Bounds.fault("land a ^/;", 1);
        Bounds.fault("land a ^:;", 1);
    }

    private static void numbersOf1Or2() {
        Bounds.sentence("Terms 1", "digits, likewise; 1 or 2");
        RenvoiDesk x = Check.told("land a 04;issue i;issue j;issue k;law a i 9;law a j 90;law a k 09;");
        Check.due("04 of two digits", x.land(0, 0), 4);
        Check.due("9 of one digit", x.inner(0, 0), 9);
        Check.due("90 of two digits", x.inner(0, 1), 90);
        Check.due("09 of two digits", x.inner(0, 2), 9);
        Bounds.fault("land a ^004;", 1);
        Bounds.fault("land a ^100;", 1);
        Bounds.fault("land a ^4294967296;", 1);
        Bounds.fault("land a 1;issue i;law a i ^000;", 1);
        Bounds.fault("land a 1;issue i;law a i ^999;", 1);
        Bounds.fault("land a 1;issue i;law a i ^" + "0".repeat(670), 1);
    }

    private static void stopAlone() {
        Bounds.sentence("Terms 1", "; alone");
        Bounds.sound("land a 1;issue i;", 2);
        Bounds.sound("land a 1 ;\nissue i ;", 2);
        Bounds.fault("^;", 1);
        Bounds.fault("land^;", 1);
        Bounds.fault("land a 1;^;", 1);
        Bounds.fault("land a 1; ^;", 1);
    }

    private static void longerOnes() {
        Bounds.sentence("Terms 1", "(longer ones, all else are no TOKENS)", "longer ones, by their first byte");
        Bounds.fault("land a 1; ^abcdefg", 1);
        Bounds.fault("land a 1; ^123", 1);
        Bounds.fault("land ^landland 1;", 1);
        Bounds.fault("land a ^012;", 1);
    }

    private static void allElse() {
        Bounds.sentence("Terms 1", "(longer ones, all else are no TOKENS)", "all else: each of the 256 bytes");
        for (int sign = 0; sign < 256; sign++) {
            boolean blank = sign == 32 || sign == 10;
            boolean letter = sign >= 'a' && sign <= 'z';
            Check.due("byte " + sign + " behind a line", Check.read("land a 1;" + (char) sign),
                    blank ? 1 : Check.fault(9, 1));
            Check.due("byte " + sign + " between words", Check.read("land" + (char) sign + "a 1;"),
                    blank ? 1 : Check.fault(letter ? 0 : 4, 1));
            Check.due("byte " + sign + " as a theory", Check.read("land a " + (char) sign + ";"),
                    asTheory(sign));
        }
    }

    private static int asTheory(int sign) {
        if (sign >= '0' && sign <= '9') {
            return sign <= '4' ? 1 : Check.fault(7, 4);
        }
        return Check.fault(sign == 32 || sign == 10 ? 8 : 7, 1);
    }

    // ---- Promise 1

    private static void newObject() {
        Bounds.sentence("Promise 1", "No LANDS, no ISSUES");
        RenvoiDesk x = new RenvoiDesk();
        for (int what = 0; what <= 7; what++) {
            Check.due("count(" + what + ")", x.count(what), 0);
        }
        Check.due("land, fact, inner", x.land(0, 0) + x.fact(0) + x.inner(0, 0), -3);
        Check.due("head, deed", x.head(0) + x.deed(0), -2);
        Check.ruleThrows("rule(0, 0, 0)", x, 0, 0, 0);
        Check.due("road, loop", x.road(0, 0, -1) + x.loop(0, -1), -4);
        Check.due("ends, trapped", x.ends(0, 0, 0) + x.trapped(0), -2);
        Check.due("comes, answer", x.comes(0, 0, -1) + x.answer(0, 0, -1), -4);
        Check.due("unlike, most, shop", x.unlike(0, 0) + x.most(0, 0) + x.shop(0, 0), -3);
        Check.due("tally(0)", x.tally(0), 0);
        Check.due("stands, where", x.stands(0, 0) + x.where(0), -2);
        Check.due("limps()", x.limps(), 0);
        Check.due("best, fewest", x.best(0, 0) + x.fewest(0), -2);
        Check.due("tie, think, say", x.tie(0, 0) + x.think(0, 0) + x.say(0, 0, 0), -3);
        Check.due("join, cut, undo", x.join(0, 0) + x.cut(0) + x.undo(), -3);
        Check.due("point(0, 0, -1, true)", x.point(0, 0, -1, true), false);
        Check.due("mirror(0, 1)", x.mirror(0, 1), false);
        Check.due("keep(0, true)", x.keep(0, true), false);
        Check.due("keep(1, true)", x.keep(1, true), false);
        Check.due("desk(1)", x.desk(1), -1);
        Check.due("desk(0)", x.desk(0), 0);
    }

    private static void newObjectsAreApart() {
        Bounds.sentence("Promise 1", "No LANDS, no ISSUES", "also if another object has some");
        RenvoiDesk other = Check.told(Bounds.FULL);
        other.keep(0, false);
        other.think(0, 1);
        Check.feed(other, "land a 1;");
        RenvoiDesk x = new RenvoiDesk();
        for (int what = 0; what <= 7; what++) {
            Check.due("count(" + what + ")", x.count(what), 0);
        }
        Check.due("keep(0, true)", x.keep(0, true), false);
        Check.due("desk(0)", x.desk(0), 0);
        Check.due("the other one's tape", other.count(6), 20);
        Check.due("the other one's lands", other.count(0), 6);
    }

    // ---- Promise 2

    private static void feedTwenty() {
        Bounds.sentence("Promise 2", "Twenty bytes come behind THE TAPE", "twenty");
        for (int place = 0; place < 20; place++) {
            RenvoiDesk x = new RenvoiDesk();
            int[] n = {FOUR_BLANKS, FOUR_BLANKS, FOUR_BLANKS, FOUR_BLANKS, FOUR_BLANKS};
            n[place / 4] |= 0xff << 8 * (3 - place % 4);
            x.feed(n[0], n[1], n[2], n[3], n[4]);
            Check.due("desk(" + place + "), no byte of 255 yet", x.desk(place), 0);
            x.feed(n[0], n[1], n[2], n[3], n[4]);
            Check.due("desk(20), a byte of 255 at " + place, x.desk(20), Check.fault(place, 1));
        }
    }

    private static void feedBehind() {
        Bounds.sentence("Promise 2", "Twenty bytes come behind THE TAPE", "behind");
        RenvoiDesk x = new RenvoiDesk();
        Check.feed(x, "land a 1; land b 2; ");
        Check.feed(x, "issue i;  fact f b; ");
        Check.due("desk(40)", x.desk(40), 4);
        Check.due("fact(0)", x.fact(0), 1);
        Check.feed(x, "land a 1;");
        feedBlanks(x, 33);
        Check.feed(x, "land b 2;          ?");
        Check.due("desk(700)", x.desk(700), Check.fault(699, 1));
    }

    private static void feedHighestFirst() {
        Bounds.sentence("Promise 2", "of each number the highest first");
        RenvoiDesk x = new RenvoiDesk();
        x.feed(0x6c616e64, 0x20616220, 0x333b6973, 0x73756520, 0x63643b0a);
        Check.due("desk(20) of \"land ab 3;issue cd;\" and a line end", x.desk(20), 2);
        Check.due("land(0, 0)", x.land(0, 0), 3);
        x.feed(0xff202020, FOUR_BLANKS, FOUR_BLANKS, FOUR_BLANKS, FOUR_BLANKS);
        Check.due("a number below 0: its first byte", x.desk(20), Check.fault(0, 1));
        x.feed(FOUR_BLANKS, 0x202020ff, FOUR_BLANKS, FOUR_BLANKS, FOUR_BLANKS);
        Check.due("its last byte", x.desk(20), Check.fault(7, 1));
    }

    private static void feedHowMany() {
        Bounds.sentence("Promise 2", "how many it has");
        RenvoiDesk x = new RenvoiDesk();
        for (int i = 1; i <= 35; i++) {
            Check.due("feed " + i, x.feed(0, 0, 0, 0, 0), 20 * i);
        }
        x.desk(0);
        Check.due("the first feed behind desk", x.feed(0, 0, 0, 0, 0), 20);
    }

    private static void feedNone() {
        Bounds.sentence("Promise 2", "if it would have more than 700");
        RenvoiDesk x = new RenvoiDesk();
        feedBlanks(x, 34);
        Check.due("feed up to 700", x.feed(0, 0, 0, 0, 0), 700);
        for (int i = 0; i < 3; i++) {
            Check.due("feed beyond 700", x.feed(0, 0, 0, 0, 0), -1);
        }
        Check.due("desk(700)", x.desk(700), Check.fault(680, 1));
        Check.due("feed behind desk", x.feed(0, 0, 0, 0, 0), 20);
    }

    private static void feedNoneCome() {
        Bounds.sentence("Promise 2", "NONE, and none come");
        RenvoiDesk x = Check.told(Bounds.SMALL);
        x.think(0, 0);
        String before = Bounds.picture(x);
        Check.feed(x, "land a 1;");
        feedBlanks(x, 34);
        Check.due("feed beyond 700", x.feed(-1, -1, -1, -1, -1), -1);
        Bounds.stays(x, before, 1, 700);
        Check.due("desk(701)", x.desk(701), -1);
        Check.due("desk(720)", x.desk(720), -1);
        Check.due("desk(700): no byte is other", x.desk(700), 1);
    }
}
