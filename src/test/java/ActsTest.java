/** Promises 25 to 34: tie, think, point, say, join, cut, mirror, undo, keep, count. */
public final class ActsTest {
    private static final String TEXT = "land a 1;land b 2;land c 3;issue i;issue j;issue k;issue l;"
            + "fact f b;fact g c;fact h a;rule a i f whole;rule a k g inner;rule b j h whole;"
            + "law a i 5;law c k 99;law b j 1;deed d i k;";

    public static void main(String[] args) {
        tie();
        think();
        point();
        say();
        join();
        cut();
        mirror();
        undo();
        undoOfEach();
        keep();
        count();
        Check.finish();
    }

    private static void tie() {
        RenvoiDesk x = Check.told(TEXT);
        Check.due("tie(0, 2)", x.tie(0, 2), 1);
        Check.due("fact(0)", x.fact(0), 2);
        Check.due("rule(0, 0, 2)", x.rule(0, 0, 2), 2);
        Check.due("tie(0, 2) as it was", x.tie(0, 2), 2);
        Check.due("both are acts", x.count(5), 2);
        Check.due("tie(3, 0)", x.tie(3, 0), -1);
        Check.due("tie(-1, 0)", x.tie(-1, 0), -1);
        Check.due("tie(0, 3)", x.tie(0, 3), -1);
        Check.due("tie(0, -1)", x.tie(0, -1), -1);
        Check.due("no acts", x.count(5), 2);
        Check.due("fact(0) stays", x.fact(0), 2);
    }

    private static void think() {
        RenvoiDesk x = Check.told(TEXT);
        Check.due("think(0, 4)", x.think(0, 4), 1);
        Check.due("land(0, 0)", x.land(0, 0), 4);
        Check.due("think(0, 0)", x.think(0, 0), 4);
        Check.due("think(0, 0) as it was", x.think(0, 0), 0);
        Check.due("three acts", x.count(5), 3);
        Check.due("think(0, 5)", x.think(0, 5), -1);
        Check.due("think(0, -1)", x.think(0, -1), -1);
        Check.due("think(3, 0)", x.think(3, 0), -1);
        Check.due("think(-1, 0)", x.think(-1, 0), -1);
        Check.due("no acts", x.count(5), 3);
    }

    private static void point() {
        RenvoiDesk x = Check.told(TEXT);
        Check.due("point(2, 3, 1, true)", x.point(2, 3, 1, true), true);
        Check.due("rule(2, 3, 0)", x.rule(2, 3, 0), 1);
        Check.due("rule(2, 3, 1)", x.rule(2, 3, 1), 1);
        Check.due("point(2, 3, 0, false)", x.point(2, 3, 0, false), true);
        Check.due("rule(2, 3, 0) anew", x.rule(2, 3, 0), 0);
        Check.due("rule(2, 3, 1) anew", x.rule(2, 3, 1), 0);
        Check.due("count(4)", x.count(4), 4);
        Check.due("point(2, 3, -1, true)", x.point(2, 3, -1, true), true);
        Check.due("rule(2, 3, 0) none any more", x.rule(2, 3, 0), -2);
        Check.due("point(2, 3, -1, true) as it was", x.point(2, 3, -1, true), true);
        Check.due("four acts", x.count(5), 4);
        Check.due("point(3, 0, 0, true)", x.point(3, 0, 0, true), false);
        Check.due("point(-1, 0, 0, true)", x.point(-1, 0, 0, true), false);
        Check.due("point(0, 4, 0, true)", x.point(0, 4, 0, true), false);
        Check.due("point(0, -1, 0, true)", x.point(0, -1, 0, true), false);
        Check.due("point(0, 0, 3, true)", x.point(0, 0, 3, true), false);
        Check.due("point(0, 0, -2, true)", x.point(0, 0, -2, true), false);
        Check.due("point(3, 0, -1, true)", x.point(3, 0, -1, true), false);
        Check.due("no acts", x.count(5), 4);
        x.join(1, 0);
        x.point(0, 1, 2, false);
        Check.due("of the issue itself, not its head", x.rule(0, 1, 0), 0);
        x.cut(1);
        Check.due("told of the issue itself", x.rule(0, 1, 0), 2);
    }

    private static void say() {
        RenvoiDesk x = Check.told(TEXT);
        Check.due("say(0, 0, 99)", x.say(0, 0, 99), 5);
        Check.due("inner(0, 0)", x.inner(0, 0), 99);
        Check.due("say(0, 0, 0)", x.say(0, 0, 0), 99);
        Check.due("say(0, 0, 0) as it was", x.say(0, 0, 0), 0);
        Check.due("three acts", x.count(5), 3);
        Check.due("say(0, 0, 100)", x.say(0, 0, 100), -1);
        Check.due("say(0, 0, -1)", x.say(0, 0, -1), -1);
        Check.due("say(3, 0, 1)", x.say(3, 0, 1), -1);
        Check.due("say(-1, 0, 1)", x.say(-1, 0, 1), -1);
        Check.due("say(0, 4, 1)", x.say(0, 4, 1), -1);
        Check.due("say(0, -1, 1)", x.say(0, -1, 1), -1);
        Check.due("no acts", x.count(5), 3);
        x.join(0, 1);
        x.say(0, 0, 7);
        Check.due("of the issue itself", x.inner(0, 0) * 10 + x.inner(0, 1), 70);
    }

    private static void heads(RenvoiDesk x, int... heads) {
        for (int issue = 0; issue < heads.length; issue++) {
            Check.due("head(" + issue + ")", x.head(issue), heads[issue]);
        }
    }

    private static void join() {
        RenvoiDesk x = Check.told(TEXT);
        Check.due("join(0, 0)", x.join(0, 0), -1);
        Check.due("join(0, 4)", x.join(0, 4), -1);
        Check.due("join(4, 0)", x.join(4, 0), -1);
        Check.due("join(-1, 0)", x.join(-1, 0), -1);
        Check.due("join(0, -1)", x.join(0, -1), -1);
        Check.due("no acts", x.count(5), 0);
        Check.due("join(0, 1)", x.join(0, 1), 2);
        heads(x, 1, 1, 2, 3);
        Check.due("join(0, 1) once more", x.join(0, 1), -1);
        Check.due("join(1, 0) once more", x.join(1, 0), -1);
        Check.due("join(2, 3)", x.join(2, 3), 2);
        Check.due("join(0, 2): all of both, the head of the other one", x.join(0, 2), 4);
        heads(x, 3, 3, 3, 3);
        Check.due("count(7)", x.count(7), 1);
        Check.due("three acts", x.count(5), 3);
    }

    private static void cut() {
        RenvoiDesk x = Check.told(TEXT);
        Check.due("cut(0) alone", x.cut(0), -1);
        Check.due("cut(4)", x.cut(4), -1);
        Check.due("cut(-1)", x.cut(-1), -1);
        Check.due("no acts", x.count(5), 0);
        x.join(3, 2);
        x.join(1, 2);
        heads(x, 0, 2, 2, 2);
        Check.due("cut(2): the first of the others is their head", x.cut(2), 3);
        heads(x, 0, 1, 2, 1);
        Check.due("cut(2) alone", x.cut(2), -1);
        x.join(2, 1);
        Check.due("cut(3): no head", x.cut(3), 3);
        heads(x, 0, 1, 1, 3);
        Check.due("cut(1): a head of two", x.cut(1), 2);
        heads(x, 0, 1, 2, 3);
        Check.due("count(7)", x.count(7), 4);
        Check.due("six acts", x.count(5), 6);
    }

    private static void mirror() {
        RenvoiDesk x = Check.told(TEXT);
        Check.due("mirror(0, 1)", x.mirror(0, 1), true);
        Check.due("fact(0)", x.fact(0), 0);
        Check.due("fact(1)", x.fact(1), 2);
        Check.due("fact(2)", x.fact(2), 1);
        Check.due("land(0, 0)", x.land(0, 0), 2);
        Check.due("land(1, 0)", x.land(1, 0), 1);
        Check.due("land(0, 2)", x.land(0, 2), 2);
        Check.due("land(1, 2)", x.land(1, 2), 5);
        Check.due("rule(1, 0, 0)", x.rule(1, 0, 0), 0);
        Check.due("rule(1, 0, 2)", x.rule(1, 0, 2), 0);
        Check.due("rule(1, 2, 1)", x.rule(1, 2, 1), 0);
        Check.due("inner(1, 0)", x.inner(1, 0), 5);
        Check.due("inner(0, 0)", x.inner(0, 0), 0);
        Check.due("inner(0, 1)", x.inner(0, 1), 1);
        Check.due("inner(2, 2)", x.inner(2, 2), 99);
        Check.due("mirror(1, 1)", x.mirror(1, 1), false);
        Check.due("mirror(3, 0)", x.mirror(3, 0), false);
        Check.due("mirror(0, 3)", x.mirror(0, 3), false);
        Check.due("mirror(-1, 0)", x.mirror(-1, 0), false);
        Check.due("mirror(0, -1)", x.mirror(0, -1), false);
        Check.due("one act", x.count(5), 1);
        Check.due("undo()", x.undo(), 0);
        Check.due("fact(0) as it was", x.fact(0), 1);
        Check.due("fact(2) as it was", x.fact(2), 0);
        Check.due("inner(0, 0) as it was", x.inner(0, 0), 5);
    }

    private static void undo() {
        RenvoiDesk x = Check.told(TEXT);
        Check.due("undo() of nothing", x.undo(), -1);
        for (int v = 1; v <= 13; v++) {
            x.say(2, 3, v);
            Check.due("count(5)", x.count(5), Math.min(v, 12));
        }
        for (int v = 12; v >= 1; v--) {
            Check.due("undo()", x.undo(), v - 1);
            Check.due("inner(2, 3)", x.inner(2, 3), v);
        }
        Check.due("undo() beyond twelve", x.undo(), -1);
        Check.due("inner(2, 3) stays", x.inner(2, 3), 1);
        for (int v = 20; v <= 60; v++) {
            x.say(2, 3, v);
        }
        x.undo();
        x.undo();
        x.say(2, 3, 61);
        Check.due("undo() behind acts anew", x.undo(), 10);
        Check.due("inner(2, 3)", x.inner(2, 3), 58);
        Check.due("an act as it was counts", x.say(2, 3, 58), 58);
        Check.due("undo() of it", x.undo(), 10);
        Check.due("the tape stays", x.count(6), 0);
        Check.feed(x, "x");
        x.undo();
        Check.due("undo leaves the tape alone", x.count(6), 20);
    }

    private static void undoOfEach() {
        RenvoiDesk x = Check.told(TEXT);
        x.tie(0, 0);
        x.think(0, 0);
        x.point(0, 0, -1, false);
        x.join(0, 1);
        x.cut(1);
        x.mirror(1, 2);
        x.undo();
        Check.due("mirror undone", x.land(1, 0), 2);
        x.undo();
        Check.due("cut undone", x.head(0), 1);
        x.undo();
        Check.due("join undone", x.head(0), 0);
        x.undo();
        Check.due("point undone", x.rule(0, 0, 0), 0);
        Check.due("point undone", x.rule(0, 0, 1), 1);
        x.undo();
        Check.due("think undone", x.land(0, 0), 1);
        Check.due("the last one", x.undo(), 0);
        Check.due("tie undone", x.fact(0), 1);
    }

    private static void keep() {
        RenvoiDesk x = Check.told(TEXT);
        Check.due("keep(0, true) of nothing", x.keep(0, true), false);
        Check.due("keep(1, true) of nothing", x.keep(1, true), false);
        Check.due("keep(2, false)", x.keep(2, false), false);
        Check.due("keep(-1, false)", x.keep(-1, false), false);
        Check.due("keep(2, true)", x.keep(2, true), false);
        Check.due("keep(-1, true)", x.keep(-1, true), false);
        x.say(0, 0, 10);
        Check.due("keep(0, false)", x.keep(0, false), true);
        Check.due("acts can be undone still", x.count(5), 1);
        x.say(0, 0, 11);
        x.tie(0, 0);
        x.think(0, 0);
        x.join(0, 1);
        x.point(0, 0, 2, false);
        Check.due("keep(1, false)", x.keep(1, false), true);
        x.say(0, 0, 12);
        Check.due("keep(0, true)", x.keep(0, true), true);
        Check.due("inner(0, 0) of keep 0", x.inner(0, 0), 10);
        Check.due("fact(0) of keep 0", x.fact(0), 1);
        Check.due("land(0, 0) of keep 0", x.land(0, 0), 1);
        Check.due("head(0) of keep 0", x.head(0), 0);
        Check.due("rule(0, 0, 0) of keep 0", x.rule(0, 0, 0), 0);
        Check.due("nothing can be undone", x.undo(), -1);
        Check.due("count(5)", x.count(5), 0);
        x.say(0, 0, 13);
        Check.feed(x, "x");
        Check.due("keep(1, true)", x.keep(1, true), true);
        Check.due("the tape is not kept", x.count(6), 20);
        Check.due("inner(0, 0) of keep 1", x.inner(0, 0), 11);
        Check.due("fact(0) of keep 1", x.fact(0), 0);
        Check.due("head(0) of keep 1", x.head(0), 1);
        Check.due("no acts", x.count(5), 0);
        Check.due("keep(0, true) once more", x.keep(0, true), true);
        Check.due("inner(0, 0) of keep 0", x.inner(0, 0), 10);
        x.say(0, 0, 14);
        Check.due("keep(0, false) over it", x.keep(0, false), true);
        x.undo();
        Check.due("keep(0, true) of the later one", x.keep(0, true), true);
        Check.due("inner(0, 0)", x.inner(0, 0), 14);
    }

    private static void count() {
        RenvoiDesk x = Check.told(TEXT);
        int[] due = {3, 4, 3, 1, 3, 0, 0, 4};
        for (int what = 0; what < due.length; what++) {
            Check.due("count(" + what + ")", x.count(what), due[what]);
        }
        Check.due("count(8)", x.count(8), -1);
        Check.due("count(-1)", x.count(-1), -1);
        x.join(0, 1);
        x.join(2, 3);
        Check.due("count(7)", x.count(7), 2);
        Check.due("count(4) is of what is told", x.count(4), 3);
        Check.due("count(5)", x.count(5), 2);
    }
}
