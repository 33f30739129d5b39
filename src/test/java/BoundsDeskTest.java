import java.io.IOException;

/** Boundary cases of promise 3, desk. */
public final class BoundsDeskTest {
    public static void main(String[] args) throws IOException {
        Bounds.open(args);
        firstBytes();
        tapeIsEmptyThen();
        tapeIsEmptyBehindAFault();
        textFromNowOn();
        headsAndLawsAnew();
        manyTexts();
        howManyLines();
        nothingCanBeUndone();
        nothingIsKept();
        notSoMany();
        below0();
        allStaysBehindNone();
        faultAsANumber();
        allElseStays();
        actsAndKeepsStay();
        Check.finish();
    }

    private static void firstBytes() {
        Bounds.sentence("Promise 3", "The first n bytes of THE TAPE");
        RenvoiDesk x = new RenvoiDesk();
        Check.feed(x, "land a 1;issue i;???");
        Check.due("desk(17)", x.desk(17), 2);
        Check.feed(x, "land a 1;issue i;???");
        Check.due("desk(18)", x.desk(18), Check.fault(17, 1));
        Check.feed(x, "land a 1;issue i;???");
        Check.due("desk(9)", x.desk(9), 1);
        Check.due("count(1)", x.count(1), 0);
        Check.feed(x, "land a 1;issue i;???");
        Check.due("desk(20)", x.desk(20), Check.fault(17, 1));
    }

    private static void tapeIsEmptyThen() {
        Bounds.sentence("Promise 3", "(it is empty then)", "also of what is behind n");
        RenvoiDesk x = new RenvoiDesk();
        Check.feed(x, "land a 1;issue i;                        ");
        Check.due("desk(9)", x.desk(9), 1);
        Check.due("count(6)", x.count(6), 0);
        Check.due("desk(1)", x.desk(1), -1);
        Check.feed(x, "???");
        Check.due("desk(0)", x.desk(0), 0);
        Check.due("count(6) behind desk(0)", x.count(6), 0);
        Check.feed(x, "issue z;");
        Check.due("what is fed then comes first", x.desk(8), 1);
        Check.due("count(1)", x.count(1), 1);
    }

    private static void tapeIsEmptyBehindAFault() {
        Bounds.sentence("Promise 3", "(it is empty then)", "also behind a FAULT");
        RenvoiDesk x = new RenvoiDesk();
        Check.feed(x, "? land a 1;issue i;");
        Check.due("desk(1)", x.desk(1), Check.fault(0, 1));
        Check.due("count(6)", x.count(6), 0);
        Check.feed(x, "issue z;");
        Check.due("what is fed then comes first", x.desk(8), 1);
    }

    private static void textFromNowOn() {
        Bounds.sentence("Promise 3", "are the TEXT from now on", "nothing of the one ahead is left");
        RenvoiDesk x = Check.told(Bounds.FULL);
        x.join(0, 5);
        x.mirror(0, 5);
        Check.due("desk anew", Check.desk(x, Bounds.SMALL), 14);
        Check.due("what is told", Bounds.picture(x), Bounds.picture(Check.told(Bounds.SMALL)));
        Check.due("desk(0)", x.desk(0), 0);
        Check.due("what is told", Bounds.picture(x), Bounds.picture(new RenvoiDesk()));
    }

    private static void headsAndLawsAnew() {
        Bounds.sentence("Promise 3", "are the TEXT from now on", "RULES, answers, HEADS that it does not tell are gone");
        RenvoiDesk x = Check.told("land a 1;land b 1;issue i;issue j;fact f b;rule a i f whole;law a i 5;deed d i;");
        x.join(0, 1);
        x.say(1, 1, 9);
        Check.desk(x, "land a 0;land b 0;issue i;issue j;fact f a;");
        Check.due("rule(0, 0, 0)", x.rule(0, 0, 0), -2);
        Check.due("inner(0, 0)", x.inner(0, 0), 0);
        Check.due("inner(1, 1)", x.inner(1, 1), 0);
        Check.due("head(0)", x.head(0), 0);
        Check.due("deed(0)", x.deed(0), -1);
        Check.due("count(7)", x.count(7), 2);
        Check.due("fact(0)", x.fact(0), 0);
    }

    private static void manyTexts() {
        Bounds.sentence("Promise 3", "are the TEXT from now on", "nothing of any one ahead, nor of one with a FAULT");
        String bare = "land a 0;land b 0;land c 0;issue i;issue j;fact f a;fact g a;deed d i;deed e i;";
        String due = Bounds.picture(Check.told(bare));
        RenvoiDesk x = Check.told(Bounds.SMALL);
        for (int turn = 0; turn < 3; turn++) {
            Check.due("the bare text, turn " + turn, Check.desk(x, bare), 9);
            Check.due("what is told", Bounds.picture(x), due);
        }
        Check.due("a fault", Check.desk(x, Bounds.SMALL + "?"), Check.fault(Bounds.SMALL.length(), 1));
        Check.due("the bare text behind a fault", Check.desk(x, bare), 9);
        Check.due("what is told", Bounds.picture(x), due);
    }

    private static void howManyLines() {
        Bounds.sentence("Promise 3", "how many LINES");
        StringBuilder text = new StringBuilder();
        String[] lines = {"land a 0;", "issue i;", "fact f a;", "rule a i f whole;", "law a i 7;", "deed d i;"};
        for (int i = 0; i <= lines.length; i++) {
            Bounds.sound(text.toString(), i);
            text.append(i < lines.length ? lines[i] : "");
        }
        Bounds.sound(Bounds.FULL, 30);
        Bounds.sound("land a 0;land b 0;issue i;issue j;\n\n\n", 4);
        StringBuilder most = new StringBuilder("land a 0;land b 0;land c 0;land d 0;land e 0;land f 0;"
                + "issue g;issue h;issue i;issue j;issue k;issue l;");
        for (char land = 'a'; land <= 'f'; land++) {
            for (char issue = 'g'; issue <= 'l'; issue++) {
                most.append("law ").append(land).append(' ').append(issue).append(" 1;");
            }
        }
        Bounds.sound(most.toString(), 48);
    }

    private static void nothingCanBeUndone() {
        Bounds.sentence("Promise 3", "nothing can be UNDONE");
        RenvoiDesk x = Check.told(Bounds.SMALL);
        for (int i = 0; i < 13; i++) {
            x.say(0, 0, i);
        }
        Check.desk(x, Bounds.SMALL);
        Check.due("count(5)", x.count(5), 0);
        Check.due("undo()", x.undo(), -1);
        Check.due("inner(0, 0)", x.inner(0, 0), 5);
        x.say(0, 0, 8);
        Check.due("undo() of an act behind it", x.undo(), 0);
        Check.due("undo() of one ahead", x.undo(), -1);
        Check.due("inner(0, 0)", x.inner(0, 0), 5);
        x.say(0, 0, 8);
        Check.due("desk(0)", x.desk(0), 0);
        Check.due("undo() behind desk(0)", x.undo(), -1);
    }

    private static void nothingIsKept() {
        Bounds.sentence("Promise 3", "nothing is KEPT");
        RenvoiDesk x = Check.told(Bounds.SMALL);
        x.keep(0, false);
        x.keep(1, false);
        Check.desk(x, "land a 0;");
        Check.due("keep(0, true)", x.keep(0, true), false);
        Check.due("keep(1, true)", x.keep(1, true), false);
        Check.due("count(0)", x.count(0), 1);
        x.keep(1, false);
        Check.due("keep(0, true), 1 laid anew", x.keep(0, true), false);
        Check.due("keep(1, true), laid anew", x.keep(1, true), true);
        Check.due("desk(0)", x.desk(0), 0);
        Check.due("keep(1, true) behind desk(0)", x.keep(1, true), false);
    }

    private static void notSoMany() {
        Bounds.sentence("Promise 3", "it has not so many");
        RenvoiDesk x = new RenvoiDesk();
        Check.due("desk(1) of an empty tape", x.desk(1), -1);
        Check.due("desk(MAX) of an empty tape", x.desk(Integer.MAX_VALUE), -1);
        Check.feed(x, "issue i;");
        for (int n : new int[] {21, 22, 40, 700, 701, Integer.MAX_VALUE}) {
            Check.due("desk(" + n + ") of 20", x.desk(n), -1);
            Check.due("count(6)", x.count(6), 20);
        }
        Check.due("desk(20) of 20", x.desk(20), 1);
        Check.feed(x, Bounds.blanks(700));
        Check.due("desk(701) of 700", x.desk(701), -1);
        Check.due("desk(700) of 700", x.desk(700), 0);
    }

    private static void below0() {
        Bounds.sentence("Promise 3", "n is below 0 (THE TAPE stays)");
        RenvoiDesk x = new RenvoiDesk();
        Check.due("desk(-1) of an empty tape", x.desk(-1), -1);
        Check.feed(x, "issue i;");
        for (int n : new int[] {-1, -2, -20, -700, Integer.MIN_VALUE}) {
            Check.due("desk(" + n + ")", x.desk(n), -1);
            Check.due("count(6)", x.count(6), 20);
        }
        Check.due("desk(8): no byte is other", x.desk(8), 1);
        Check.feed(x, "issue i;");
        Check.due("desk(0)", x.desk(0), 0);
    }

    private static void allStaysBehindNone() {
        Bounds.sentence("Promise 3", "n is below 0 (THE TAPE stays)", "all else, too");
        RenvoiDesk x = Check.told(Bounds.SMALL);
        x.keep(0, false);
        x.say(0, 0, 7);
        Check.feed(x, "land z 1;");
        String before = Bounds.picture(x);
        x.desk(-1);
        x.desk(21);
        Bounds.stays(x, before, 1, 20);
        Check.due("undo()", x.undo(), 0);
        Check.due("inner(0, 0)", x.inner(0, 0), 5);
        Check.due("keep(0, true)", x.keep(0, true), true);
    }

    private static void faultAsANumber() {
        Bounds.sentence("Promise 3", "-2 less (8 * place + kind): a FAULT");
        Check.due("kind 1 at 0", Check.read("?"), -3);
        Check.due("kind 2 at 5", Check.read("land a 0;land a"), -2 - 8 * 14 - 2);
        Check.due("kind 3 at 5", Check.read("rule a"), -45);
        Check.due("kind 4 at 7", Check.read("land a 5;"), -62);
        Check.due("kind 5 at 48",
                Check.read("issue i;issue j;issue k;issue l;issue m;issue n;issue o;"), -2 - 8 * 48 - 5);
        Check.due("kind 1 at 700", Check.read("land" + Bounds.blanks(696)), -5603);
    }

    /** A text that tells much ahead of its FAULT: none of it may come. */
    private static void allElseStays() {
        Bounds.sentence("Promise 3", "a FAULT (all else stays)");
        String[] faults = {"?", "land ^", "land a 0;", "fact z z;", "land z 5;", "issue z;issue y;issue x;issue w;issue v;"};
        for (String fault : faults) {
            RenvoiDesk x = Check.told(Bounds.SMALL);
            x.join(0, 1);
            String before = Bounds.picture(x);
            int answer = Check.desk(x, "issue p;issue q;land a 4;land s 4;fact t s;rule s p t inner;law s q 77;deed u p;" + fault);
            Check.due("a fault of " + fault + ": " + answer, answer < -2, true);
            Bounds.stays(x, before, 1, 0);
        }
    }

    private static void actsAndKeepsStay() {
        Bounds.sentence("Promise 3", "a FAULT (all else stays)", "what can be UNDONE, what is KEPT");
        RenvoiDesk x = Check.told(Bounds.SMALL);
        x.keep(0, false);
        x.say(0, 0, 7);
        x.say(0, 0, 8);
        x.keep(1, false);
        String kept = Bounds.picture(x);
        Check.due("a fault", Check.desk(x, "land z 0;issue z;"), Check.fault(15, 2));
        Check.due("undo()", x.undo(), 1);
        Check.due("inner(0, 0)", x.inner(0, 0), 7);
        Check.due("undo()", x.undo(), 0);
        Check.due("inner(0, 0)", x.inner(0, 0), 5);
        Check.due("keep(1, true)", x.keep(1, true), true);
        Check.due("what is told", Bounds.picture(x), kept);
        Check.due("keep(0, true)", x.keep(0, true), true);
        Check.due("inner(0, 0) of keep 0", x.inner(0, 0), 5);
    }
}
