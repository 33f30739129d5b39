import java.io.IOException;

/** Boundary cases of Terms 3 (UNDONE, KEEPS) and of promises 32 to 34: undo, keep, count. */
public final class BoundsPastTest {
    public static void main(String[] args) throws IOException {
        Bounds.open(args);
        theLast12();
        eachKindCounts();
        oneByOne();
        roundAndRound();
        keepsHoldAll();
        keepsDoNotHoldTheTape();
        keepsForgetActs();
        undoHowMany();
        undoNoneCanBe();
        undoLeavesTheTapeAndKeeps();
        keepIsLaid();
        keepIsLaidAnew();
        keepAgainAndAgain();
        keepNoneSuch();
        keepNothingIsInIt();
        countNone();
        countFull();
        countActs();
        countTape();
        countHeads();
        countRules();
        countOthers();
        Check.finish();
    }

    // ---- Terms 3: UNDONE

    private static void theLast12() {
        Bounds.sentence("Terms 3", "The last 12 can be UNDONE", "11, 12, 13, 25 ACTS");
        for (int acts : new int[] {11, 12, 13, 25}) {
            RenvoiDesk x = Check.told(Bounds.SMALL);
            for (int v = 1; v <= acts; v++) {
                x.say(0, 0, 10 + v);
            }
            int can = Math.min(acts, 12);
            Check.due("count(5) of " + acts, x.count(5), can);
            for (int left = can - 1; left >= 0; left--) {
                Check.due("undo() of " + acts, x.undo(), left);
            }
            Check.due("undo() beyond, of " + acts, x.undo(), -1);
            Check.due("inner(0, 0) of " + acts, x.inner(0, 0), acts <= 12 ? 5 : 10 + acts - 12);
        }
    }

    private static void actOf(RenvoiDesk x, int kind) {
        switch (kind) {
            case 0 -> x.tie(0, 2);
            case 1 -> x.think(0, 4);
            case 2 -> x.point(0, 0, -1, true);
            case 3 -> x.say(0, 0, 50);
            case 4 -> x.join(0, 1);
            case 5 -> x.cut(0);
            default -> x.mirror(0, 2);
        }
    }

    private static void eachKindCounts() {
        Bounds.sentence("Terms 3", "The last 12 can be UNDONE", "each kind of ACT is one, undone as it was told");
        RenvoiDesk x = Check.told(Bounds.SMALL);
        String[] pictures = new String[7];
        for (int kind = 0; kind < 7; kind++) {
            pictures[kind] = Bounds.picture(x);
            actOf(x, kind);
            Check.due("count(5)", x.count(5), kind + 1);
        }
        RenvoiDesk y = Check.told(Bounds.SMALL);
        for (int kind = 0; kind < 7; kind++) {
            actOf(y, kind);
        }
        for (int kind = 6; kind >= 0; kind--) {
            Check.due("undo()", y.undo(), kind);
            Check.due("what is told ahead of act " + kind, Bounds.picture(y), pictures[kind]);
        }
    }

    private static void oneByOne() {
        Bounds.sentence("Terms 3", "one by one", "the latest first; what is undone is gone");
        RenvoiDesk x = Check.told(Bounds.SMALL);
        x.say(0, 0, 1);
        x.think(0, 4);
        x.say(0, 0, 2);
        Check.due("undo()", x.undo(), 2);
        Check.due("inner(0, 0)", x.inner(0, 0), 1);
        Check.due("land(0, 0)", x.land(0, 0), 4);
        Check.due("undo()", x.undo(), 1);
        Check.due("land(0, 0)", x.land(0, 0), 1);
        x.tie(0, 0);
        Check.due("undo() of the later one", x.undo(), 1);
        Check.due("fact(0)", x.fact(0), 1);
        Check.due("inner(0, 0)", x.inner(0, 0), 1);
        Check.due("undo()", x.undo(), 0);
        Check.due("inner(0, 0)", x.inner(0, 0), 5);
    }

    private static void roundAndRound() {
        Bounds.sentence("Terms 3", "The last 12 can be UNDONE", "ACTS and undoing by turns, past 12 many times");
        RenvoiDesk x = Check.told(Bounds.SMALL);
        int[] said = new int[200];
        said[0] = 5;
        int now = 0;
        int can = 0;
        for (int turn = 0; turn < 12; turn++) {
            for (int i = 0; i < 5 + turn; i++) {
                now++;
                said[now] = (now * 7 + turn) % 100;
                can = Math.min(can + 1, 12);
                x.say(0, 0, said[now]);
            }
            for (int i = 0; i < 4 + turn % 3 && can > 0; i++) {
                now--;
                can--;
                Check.due("undo()", x.undo(), can);
                Check.due("inner(0, 0)", x.inner(0, 0), said[now]);
            }
        }
        Check.due("count(5)", x.count(5), can);
    }

    // ---- Terms 3: KEEPS

    private static void keepsHoldAll() {
        Bounds.sentence("Terms 3", "KEEPS 0 and 1 hold all", "FACTS, THEORIES, RULES, answers, HEADS");
        RenvoiDesk x = Check.told(Bounds.SMALL);
        String first = Bounds.picture(x);
        x.keep(0, false);
        for (int kind : new int[] {0, 1, 2, 3, 4, 6}) {
            actOf(x, kind);
        }
        x.keep(1, false);
        RenvoiDesk due = Check.told(Bounds.SMALL);
        for (int kind : new int[] {0, 1, 2, 3, 4, 6}) {
            actOf(due, kind);
        }
        x.keep(0, true);
        Check.due("what is told of keep 0", Bounds.picture(x), first);
        x.keep(1, true);
        Check.due("what is told of keep 1", Bounds.picture(x), Bounds.picture(due));
        Check.due("head(0) of keep 1", x.head(0), 1);
    }

    private static void keepsDoNotHoldTheTape() {
        Bounds.sentence("Terms 3", "hold all but THE TAPE");
        RenvoiDesk x = Check.told(Bounds.SMALL);
        Check.feed(x, "issue z;");
        x.keep(0, false);
        Check.feed(x, "issue y;");
        Check.due("keep(0, true)", x.keep(0, true), true);
        Check.due("count(6)", x.count(6), 40);
        Check.due("desk(28)", x.desk(28), 2);
        x.keep(0, false);
        Check.feed(x, "issue y;");
        Check.due("keep(0, true)", x.keep(0, true), true);
        Check.due("count(6)", x.count(6), 20);
        Check.due("desk(8): no byte is other", x.desk(8), 1);
    }

    private static void keepsForgetActs() {
        Bounds.sentence("Terms 3", "(nothing can be UNDONE when one is gone back to)");
        RenvoiDesk x = Check.told(Bounds.SMALL);
        x.say(0, 0, 7);
        x.keep(0, false);
        Check.due("laid: one can be undone still", x.count(5), 1);
        x.say(0, 0, 8);
        Check.due("keep(1, true), nothing is in it", x.keep(1, true), false);
        Check.due("two can be undone still", x.count(5), 2);
        Check.due("keep(0, true)", x.keep(0, true), true);
        Check.due("count(5)", x.count(5), 0);
        Check.due("undo()", x.undo(), -1);
        Check.due("inner(0, 0)", x.inner(0, 0), 7);
        x.say(0, 0, 9);
        Check.due("undo() of an act behind it", x.undo(), 0);
        Check.due("inner(0, 0)", x.inner(0, 0), 7);
        Check.due("undo()", x.undo(), -1);
    }

    // ---- Promise 32

    private static void undoHowMany() {
        Bounds.sentence("Promise 32", "The latest ACT is UNDONE: how many can be still");
        RenvoiDesk x = Check.told(Bounds.SMALL);
        x.think(0, 2);
        Check.due("undo() of one", x.undo(), 0);
        for (int i = 0; i < 14; i++) {
            x.think(0, i % 5);
        }
        for (int left = 11; left >= 0; left--) {
            Check.due("undo() of twelve", x.undo(), left);
            Check.due("count(5)", x.count(5), left);
            Check.due("land(0, 0)", x.land(0, 0), (left + 1) % 5);
        }
    }

    private static void undoNoneCanBe() {
        Bounds.sentence("Promise 32", "none can be");
        Check.due("of a new one", new RenvoiDesk().undo(), -1);
        RenvoiDesk x = Check.told(Bounds.SMALL);
        String before = Bounds.picture(x);
        Check.due("behind desk", x.undo(), -1);
        x.think(0, 4);
        x.undo();
        Check.due("behind all were undone", x.undo(), -1);
        Check.due("once more", x.undo(), -1);
        Bounds.stays(x, before, 0, 0);
        x.tie(0, 9);
        x.mirror(1, 1);
        x.cut(0);
        Check.due("behind refused calls", x.undo(), -1);
        x.think(0, 4);
        Check.due("an act behind that", x.undo(), 0);
    }

    private static void undoLeavesTheTapeAndKeeps() {
        Bounds.sentence("Promise 32", "The latest ACT is UNDONE", "THE TAPE and the KEEPS are left alone");
        RenvoiDesk x = Check.told(Bounds.SMALL);
        x.say(0, 0, 7);
        x.keep(0, false);
        Check.feed(x, "issue z;");
        Check.due("undo()", x.undo(), 0);
        Check.due("count(6)", x.count(6), 20);
        Check.due("inner(0, 0)", x.inner(0, 0), 5);
        Check.due("keep(0, true)", x.keep(0, true), true);
        Check.due("inner(0, 0) of keep 0", x.inner(0, 0), 7);
        Check.due("keep(1, true)", x.keep(1, true), false);
    }

    // ---- Promise 33

    private static void keepIsLaid() {
        Bounds.sentence("Promise 33", "A KEEP is laid (back: gone back to): true", "0 and 1, each for itself");
        RenvoiDesk x = Check.told(Bounds.SMALL);
        x.say(0, 0, 70);
        Check.due("keep(0, false)", x.keep(0, false), true);
        x.say(0, 0, 71);
        Check.due("keep(1, false)", x.keep(1, false), true);
        x.say(0, 0, 72);
        Check.due("keep(0, true)", x.keep(0, true), true);
        Check.due("inner(0, 0) of keep 0", x.inner(0, 0), 70);
        Check.due("keep(1, true)", x.keep(1, true), true);
        Check.due("inner(0, 0) of keep 1", x.inner(0, 0), 71);
        RenvoiDesk y = new RenvoiDesk();
        Check.due("keep(0, false) of a new one", y.keep(0, false), true);
        Check.due("keep(0, true) of a new one", y.keep(0, true), true);
        Check.due("count(0)", y.count(0), 0);
    }

    private static void keepIsLaidAnew() {
        Bounds.sentence("Promise 33", "A KEEP is laid", "over what was in it");
        RenvoiDesk x = Check.told(Bounds.SMALL);
        x.keep(1, false);
        x.say(0, 0, 70);
        x.keep(0, false);
        x.say(0, 0, 71);
        Check.due("keep(0, false)", x.keep(0, false), true);
        x.say(0, 0, 72);
        x.keep(0, true);
        Check.due("inner(0, 0) of keep 0", x.inner(0, 0), 71);
        x.keep(1, true);
        Check.due("inner(0, 0) of keep 1", x.inner(0, 0), 5);
    }

    private static void keepAgainAndAgain() {
        Bounds.sentence("Promise 33", "gone back to", "it holds what it held, however often");
        RenvoiDesk x = Check.told(Bounds.SMALL);
        x.keep(0, false);
        String kept = Bounds.picture(x);
        for (int i = 0; i < 3; i++) {
            x.say(0, 0, 70 + i);
            x.think(1, i);
            x.tie(0, i % 3);
            x.join(0, 1);
            Check.due("keep(0, true)", x.keep(0, true), true);
            Check.due("what is told", Bounds.picture(x), kept);
        }
    }

    private static void keepNoneSuch() {
        Bounds.sentence("Promise 33", "none such");
        RenvoiDesk x = Check.told(Bounds.SMALL);
        x.keep(0, false);
        x.keep(1, false);
        x.say(0, 0, 7);
        String before = Bounds.picture(x);
        for (int k : Bounds.outside(2)) {
            Check.due("keep(" + k + ", false)", x.keep(k, false), false);
            Check.due("keep(" + k + ", true)", x.keep(k, true), false);
        }
        Bounds.stays(x, before, 1, 0);
        Check.due("keep(1, true)", x.keep(1, true), true);
        Check.due("inner(0, 0) of keep 1", x.inner(0, 0), 5);
        Check.due("keep(0, true)", x.keep(0, true), true);
    }

    private static void keepNothingIsInIt() {
        Bounds.sentence("Promise 33", "nothing is in it (back)");
        RenvoiDesk x = Check.told(Bounds.SMALL);
        x.say(0, 0, 7);
        String before = Bounds.picture(x);
        Check.due("keep(0, true)", x.keep(0, true), false);
        Check.due("keep(1, true)", x.keep(1, true), false);
        Bounds.stays(x, before, 1, 0);
        x.keep(1, false);
        Check.due("keep(0, true), 1 laid", x.keep(0, true), false);
        Check.due("keep(1, true), 1 laid", x.keep(1, true), true);
        x.desk(0);
        x.keep(0, false);
        Check.due("keep(1, true), 0 laid", x.keep(1, true), false);
        Check.due("keep(0, true), 0 laid", x.keep(0, true), true);
    }

    // ---- Promise 34

    private static void countNone() {
        Bounds.sentence("Promise 34", "What 0: LANDS, 1: ISSUES, 2: FACTS, 3: DEEDS, 4: RULES", "none, some of each");
        RenvoiDesk x = new RenvoiDesk();
        for (int what = 0; what <= 7; what++) {
            Check.due("count(" + what + ") of a new one", x.count(what), 0);
        }
        x = Check.told("land a 0;land b 0;land c 0;issue i;issue j;fact f a;deed d i;deed e j;deed g i j;deed h j i;"
                + "rule a i f whole;rule b i f whole;rule c i f whole;rule a j f inner;rule b j f inner;");
        int[] due = {3, 2, 1, 4, 5, 0, 0, 2};
        for (int what = 0; what <= 7; what++) {
            Check.due("count(" + what + ")", x.count(what), due[what]);
        }
    }

    private static void countFull() {
        Bounds.sentence("Promise 34", "0: LANDS, 1: ISSUES, 2: FACTS, 3: DEEDS, 4: RULES", "as many as may be");
        RenvoiDesk x = Check.told(Bounds.FULL);
        int[] due = {6, 6, 5, 5, 4, 0, 0, 6};
        for (int what = 0; what <= 7; what++) {
            Check.due("count(" + what + ")", x.count(what), due[what]);
        }
    }

    private static void countRules() {
        Bounds.sentence("Promise 34", "4: RULES", "none to 36, as told, whatever the HEADS");
        RenvoiDesk x = Check.told(Bounds.FULL);
        for (int land = 0; land < 6; land++) {
            for (int issue = 0; issue < 6; issue++) {
                x.point(land, issue, -1, true);
            }
        }
        Check.due("count(4)", x.count(4), 0);
        for (int land = 0; land < 6; land++) {
            for (int issue = 0; issue < 6; issue++) {
                x.point(land, issue, land % 5, issue > 2);
                Check.due("count(4)", x.count(4), 6 * land + issue + 1);
            }
        }
        x.join(0, 5);
        Check.due("count(4), joined", x.count(4), 36);
        RenvoiDesk y = Check.told(Bounds.FULL);
        for (int issue = 1; issue < 6; issue++) {
            y.join(issue, 0);
        }
        Check.due("count(4), joined to one with rules", y.count(4), 4);
        y.cut(1);
        y.join(0, 1);
        Check.due("count(4), joined to one without rules", y.count(4), 4);
    }

    private static void countActs() {
        Bounds.sentence("Promise 34", "5: ACTS that can be UNDONE", "12 at most");
        RenvoiDesk x = Check.told(Bounds.SMALL);
        for (int i = 1; i <= 14; i++) {
            x.think(0, 0);
            Check.due("count(5)", x.count(5), Math.min(i, 12));
        }
    }

    private static void countTape() {
        Bounds.sentence("Promise 34", "6: bytes on THE TAPE", "0 to 700");
        RenvoiDesk x = new RenvoiDesk();
        for (int i = 1; i <= 36; i++) {
            x.feed(0, 0, 0, 0, 0);
            Check.due("count(6)", x.count(6), Math.min(20 * i, 700));
        }
        x.desk(3);
        Check.due("count(6)", x.count(6), 0);
    }

    private static void countHeads() {
        Bounds.sentence("Promise 34", "7: HEADS (unlike ones)", "six down to one, and back");
        RenvoiDesk x = Check.told(Bounds.FULL);
        Check.due("count(7)", x.count(7), 6);
        for (int issue = 0; issue < 5; issue++) {
            x.join(issue, 5);
            Check.due("count(7)", x.count(7), 5 - issue);
        }
        for (int issue = 5; issue >= 1; issue--) {
            x.cut(issue);
            Check.due("count(7)", x.count(7), 7 - issue);
        }
    }

    private static void countOthers() {
        Bounds.sentence("Promise 34", "NONE for another what");
        RenvoiDesk x = Check.told(Bounds.FULL);
        for (int what : Bounds.outside(8)) {
            Check.due("count(" + what + ")", x.count(what), -1);
        }
    }
}
