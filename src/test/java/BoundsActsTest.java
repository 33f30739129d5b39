import java.io.IOException;

/** Boundary cases of Terms 3 (ACTS) and of promises 25 to 31: tie, think, point, say, join, cut, mirror. */
public final class BoundsActsTest {
    public static void main(String[] args) throws IOException {
        Bounds.open(args);
        alsoAsItWas();
        sevenKindsOfActs();
        noActs();
        tieFirstAndLast();
        tieNoSuchFact();
        tieNoSuchLand();
        thinkFrom0To4();
        thinkOtherTheories();
        thinkOtherLands();
        pointItselfNotItsHead();
        pointNoneAnyMore();
        pointByAFact();
        pointFirstAndLast();
        pointNoSuchLand();
        pointNoSuchIssue();
        pointNoSuchFact();
        sayFrom0To99();
        sayOtherAnswers();
        sayOtherLands();
        sayOtherIssues();
        joinAllOfTheSame();
        joinThatOfAnotherOne();
        joinHowMany();
        joinNoSuchIssue();
        joinNoSuchOther();
        joinTheSameOne();
        cutItsOwnHead();
        cutTheFirstOfThem();
        cutHowMany();
        cutNoneSuch();
        cutAlone();
        mirrorAll();
        mirrorTwice();
        mirrorNoneSuch();
        mirrorOneAndTheSame();
        Check.finish();
    }

    private static RenvoiDesk actedOnce() {
        RenvoiDesk x = Check.told(Bounds.SMALL);
        x.think(0, 4);
        return x;
    }

    // ---- Terms 3: ACTS

    private static void alsoAsItWas() {
        Bounds.sentence("Terms 3", "told anew (also as it was)", "a FACT, a THEORY, a RULE, no RULE, an answer");
        RenvoiDesk x = Check.told(Bounds.SMALL);
        String before = Bounds.picture(x);
        Check.due("tie(0, 1)", x.tie(0, 1), 1);
        Check.due("count(5)", x.count(5), 1);
        Check.due("think(0, 1)", x.think(0, 1), 1);
        Check.due("count(5)", x.count(5), 2);
        Check.due("point(0, 0, 0, true)", x.point(0, 0, 0, true), true);
        Check.due("count(5)", x.count(5), 3);
        Check.due("point(2, 0, -1, true)", x.point(2, 0, -1, true), true);
        Check.due("count(5)", x.count(5), 4);
        Check.due("say(0, 0, 5)", x.say(0, 0, 5), 5);
        Check.due("count(5)", x.count(5), 5);
        Check.due("say(1, 1, 0), none told", x.say(1, 1, 0), 0);
        Bounds.stays(x, before, 6, 0);
    }

    private static void sevenKindsOfActs() {
        Bounds.sentence("Terms 3", "ISSUES joined, cut, LANDS mirrored");
        RenvoiDesk x = Check.told(Bounds.SMALL);
        x.join(0, 1);
        Check.due("joined", x.count(5), 1);
        x.cut(0);
        Check.due("cut", x.count(5), 2);
        x.mirror(0, 1);
        Check.due("mirrored", x.count(5), 3);
    }

    private static void noActs() {
        Bounds.sentence("Terms 3", "ACTS: a FACT, a THEORY, a RULE, an answer told anew", "all other calls are none");
        RenvoiDesk x = actedOnce();
        x.land(0, 0);
        x.fact(0);
        x.rule(0, 0, 0);
        x.inner(0, 0);
        x.head(0);
        x.deed(0);
        x.road(0, 0, -1);
        x.ends(0, 0, 0);
        x.trapped(0);
        x.loop(0, -1);
        x.comes(0, 0, -1);
        x.answer(0, 0, -1);
        x.unlike(0, 0);
        x.most(0, 0);
        x.shop(0, 0);
        x.tally(0);
        x.stands(0, 0);
        x.where(0);
        x.limps();
        x.best(0, 0);
        x.fewest(0);
        x.keep(0, false);
        x.count(0);
        Check.feed(x, "?");
        x.desk(-1);
        Check.due("count(5)", x.count(5), 1);
        x.desk(1);
        Check.due("count(5) behind a fault", x.count(5), 1);
        Check.due("undo()", x.undo(), 0);
        Check.due("land(0, 0)", x.land(0, 0), 1);
    }

    // ---- Promise 25

    private static void tieFirstAndLast() {
        Bounds.sentence("Promise 25", "A FACT tells a LAND: the one that it told", "the first and the last of each");
        RenvoiDesk x = Check.told(Bounds.FULL);
        Check.due("tie(0, 5)", x.tie(0, 5), 0);
        Check.due("tie(4, 5)", x.tie(4, 5), 4);
        Check.due("tie(4, 0)", x.tie(4, 0), 5);
        Check.due("fact(0)", x.fact(0), 5);
        Check.due("fact(4)", x.fact(4), 0);
        Check.due("fact(3)", x.fact(3), 3);
    }

    private static void tieNoSuchFact() {
        Bounds.sentence("Promise 25", "none such", "the FACT");
        RenvoiDesk x = actedOnce();
        String before = Bounds.picture(x);
        for (int fact : Bounds.outside(2)) {
            Check.due("tie(" + fact + ", 0) of two", x.tie(fact, 0), -1);
        }
        Bounds.stays(x, before, 1, 0);
        RenvoiDesk full = Check.told(Bounds.FULL);
        for (int fact : Bounds.outside(5)) {
            Check.due("tie(" + fact + ", 0) of five", full.tie(fact, 0), -1);
        }
        Check.due("count(5)", full.count(5), 0);
        Check.due("tie(0, 0) of none", Check.told("land a 0;").tie(0, 0), -1);
    }

    private static void tieNoSuchLand() {
        Bounds.sentence("Promise 25", "none such", "the LAND");
        RenvoiDesk x = actedOnce();
        String before = Bounds.picture(x);
        for (int land : Bounds.outside(3)) {
            Check.due("tie(0, " + land + ") of three", x.tie(0, land), -1);
        }
        Bounds.stays(x, before, 1, 0);
        RenvoiDesk full = Check.told(Bounds.FULL);
        for (int land : Bounds.outside(6)) {
            Check.due("tie(4, " + land + ") of six", full.tie(4, land), -1);
        }
        Check.due("count(5)", full.count(5), 0);
        Check.due("fact(4)", full.fact(4), 4);
    }

    // ---- Promise 26

    private static void thinkFrom0To4() {
        Bounds.sentence("Promise 26", "A LAND has a THEORY (0 to 4): the one that it had");
        RenvoiDesk x = Check.told(Bounds.FULL);
        int had = 1;
        for (int theory : new int[] {0, 4, 1, 3, 2, 0}) {
            Check.due("think(5, " + theory + ")", x.think(5, theory), had);
            Check.due("land(5, 0)", x.land(5, 0), theory);
            had = theory;
        }
        Check.due("think(0, 4)", x.think(0, 4), 0);
        Check.due("land(1, 0) stays", x.land(1, 0), 1);
    }

    private static void thinkOtherTheories() {
        Bounds.sentence("Promise 26", "others", "the THEORY");
        RenvoiDesk x = actedOnce();
        String before = Bounds.picture(x);
        for (int theory : Bounds.outside(5)) {
            Check.due("think(0, " + theory + ")", x.think(0, theory), -1);
        }
        Bounds.stays(x, before, 1, 0);
    }

    private static void thinkOtherLands() {
        Bounds.sentence("Promise 26", "others", "the LAND");
        RenvoiDesk x = actedOnce();
        String before = Bounds.picture(x);
        for (int land : Bounds.outside(3)) {
            Check.due("think(" + land + ", 0) of three", x.think(land, 0), -1);
        }
        Bounds.stays(x, before, 1, 0);
        RenvoiDesk full = Check.told(Bounds.FULL);
        for (int land : Bounds.outside(6)) {
            Check.due("think(" + land + ", 0) of six", full.think(land, 0), -1);
        }
        Check.due("count(5)", full.count(5), 0);
    }

    // ---- Promise 27

    private static void pointItselfNotItsHead() {
        Bounds.sentence("Promise 27", "(itself, not its HEAD)");
        RenvoiDesk x = Check.told(Bounds.SMALL);
        x.join(1, 0);
        Check.due("point(0, 1, 1, false)", x.point(0, 1, 1, false), true);
        Check.due("rule(0, 1, 0) is the head's", x.rule(0, 1, 0), 0);
        Check.due("rule(0, 0, 0) stays", x.rule(0, 0, 0), 0);
        Check.due("land(0, 1)", x.land(0, 1), 2);
        x.cut(1);
        Check.due("rule(0, 1, 0) behind cut", x.rule(0, 1, 0), 1);
        x.join(1, 0);
        Check.due("point(0, 1, -1, false)", x.point(0, 1, -1, false), true);
        Check.due("the head's stays", x.rule(0, 1, 0), 0);
        Check.due("land(0, 1)", x.land(0, 1), 1);
    }

    private static void pointNoneAnyMore() {
        Bounds.sentence("Promise 27", "NONE: none any more", "whole or inner, also where there is none");
        RenvoiDesk x = Check.told(Bounds.SMALL);
        Check.due("point(0, 0, -1, true)", x.point(0, 0, -1, true), true);
        Check.due("rule(0, 0, 0)", x.rule(0, 0, 0), -2);
        Check.due("point(1, 1, -1, false)", x.point(1, 1, -1, false), true);
        Check.due("rule(1, 1, 1)", x.rule(1, 1, 1), -2);
        Check.due("count(4)", x.count(4), 0);
        Check.due("point(1, 1, -1, true)", x.point(1, 1, -1, true), true);
        Check.due("count(4)", x.count(4), 0);
        Check.due("count(5)", x.count(5), 3);
        RenvoiDesk y = Check.told("land a 0;issue i;");
        Check.due("point(0, 0, -1, true) of no facts", y.point(0, 0, -1, true), true);
        Check.due("count(5)", y.count(5), 1);
    }

    private static void pointByAFact() {
        Bounds.sentence("Promise 27", "by a FACT", "to the LAND that this tells, then and later");
        RenvoiDesk x = Check.told(Bounds.FULL);
        for (int fact = 0; fact < 5; fact++) {
            Check.due("point(2, 3, " + fact + ", true)", x.point(2, 3, fact, true), true);
            Check.due("rule(2, 3, 2)", x.rule(2, 3, 2), fact);
            x.tie(fact, 5);
            Check.due("rule(2, 3, 2), the fact told anew", x.rule(2, 3, 2), 5);
            Check.due("rule(2, 3, 0), by the same fact", x.rule(2, 3, 0), fact);
        }
    }

    private static void pointFirstAndLast() {
        Bounds.sentence("Promise 27", "whole or inner: true", "the first and the last of each");
        RenvoiDesk x = Check.told(Bounds.FULL);
        for (int[] each : new int[][] {{0, 0, 4}, {5, 5, 0}, {0, 5, 4}, {5, 0, 0}}) {
            Check.due("point", x.point(each[0], each[1], each[2], true), true);
            Check.due("rule of it, 0", x.rule(each[0], each[1], 0), each[2]);
            Check.due("rule of it, 1", x.rule(each[0], each[1], 1), 1);
            Check.due("point", x.point(each[0], each[1], each[2], false), true);
            Check.due("rule of it, 0", x.rule(each[0], each[1], 0), each[2]);
            Check.due("rule of it, 1", x.rule(each[0], each[1], 1), 0);
        }
        Check.due("count(4): no more of them", x.count(4), 4);
    }

    private static void pointNoSuchLand() {
        Bounds.sentence("Promise 27", "none such", "the LAND");
        RenvoiDesk x = actedOnce();
        String before = Bounds.picture(x);
        for (int land : Bounds.outside(3)) {
            Check.due("point(" + land + ", 0, 0, true) of three", x.point(land, 0, 0, true), false);
            Check.due("point(" + land + ", 0, -1, true) of three", x.point(land, 0, -1, true), false);
        }
        Bounds.stays(x, before, 1, 0);
        RenvoiDesk full = Check.told(Bounds.FULL);
        for (int land : Bounds.outside(6)) {
            Check.due("point(" + land + ", 0, 0, true) of six", full.point(land, 0, 0, true), false);
            Check.due("point(" + land + ", 5, -1, true) of six", full.point(land, 5, -1, true), false);
        }
        Check.due("count(4)", full.count(4), 4);
        Check.due("count(5)", full.count(5), 0);
    }

    private static void pointNoSuchIssue() {
        Bounds.sentence("Promise 27", "none such", "the ISSUE");
        RenvoiDesk x = actedOnce();
        String before = Bounds.picture(x);
        for (int issue : Bounds.outside(2)) {
            Check.due("point(0, " + issue + ", 0, true) of two", x.point(0, issue, 0, true), false);
            Check.due("point(0, " + issue + ", -1, true) of two", x.point(0, issue, -1, true), false);
        }
        Bounds.stays(x, before, 1, 0);
        RenvoiDesk full = Check.told(Bounds.FULL);
        for (int issue : Bounds.outside(6)) {
            Check.due("point(0, " + issue + ", 0, true) of six", full.point(0, issue, 0, true), false);
            Check.due("point(5, " + issue + ", -1, true) of six", full.point(5, issue, -1, true), false);
        }
        Check.due("count(4)", full.count(4), 4);
        Check.due("count(5)", full.count(5), 0);
    }

    private static void pointNoSuchFact() {
        Bounds.sentence("Promise 27", "none such", "the FACT; -2 is not NONE");
        RenvoiDesk x = actedOnce();
        String before = Bounds.picture(x);
        for (int fact : Bounds.outsideButNone(2)) {
            Check.due("point(0, 0, " + fact + ", true) of two", x.point(0, 0, fact, true), false);
            Check.due("point(2, 1, " + fact + ", false) of two", x.point(2, 1, fact, false), false);
        }
        Bounds.stays(x, before, 1, 0);
        RenvoiDesk full = Check.told(Bounds.FULL);
        for (int fact : Bounds.outsideButNone(5)) {
            Check.due("point(0, 0, " + fact + ", true) of five", full.point(0, 0, fact, true), false);
        }
        Check.due("count(5)", full.count(5), 0);
        Check.due("point(0, 0, 0, true) of none", Check.told("land a 0;issue i;").point(0, 0, 0, true), false);
    }

    // ---- Promise 28

    private static void sayFrom0To99() {
        Bounds.sentence("Promise 28", "answers v (0 to 99) on an ISSUE: what it answered");
        RenvoiDesk x = Check.told(Bounds.FULL);
        int had = 8;
        for (int v : new int[] {0, 99, 1, 98, 0}) {
            Check.due("say(5, 5, " + v + ")", x.say(5, 5, v), had);
            Check.due("inner(5, 5)", x.inner(5, 5), v);
            had = v;
        }
        Check.due("say(1, 1, 3), none told", x.say(1, 1, 3), 0);
        x.join(1, 0);
        Check.due("say(1, 1, 4): the issue itself", x.say(1, 1, 4), 3);
        Check.due("inner(1, 0) of its head stays", x.inner(1, 0), 0);
    }

    private static void sayOtherAnswers() {
        Bounds.sentence("Promise 28", "others", "the answer");
        RenvoiDesk x = actedOnce();
        String before = Bounds.picture(x);
        for (int v : new int[] {-1, -2, -99, -100, 100, 101, 128, 256, Integer.MIN_VALUE, Integer.MAX_VALUE}) {
            Check.due("say(0, 0, " + v + ")", x.say(0, 0, v), -1);
        }
        Bounds.stays(x, before, 1, 0);
    }

    private static void sayOtherLands() {
        Bounds.sentence("Promise 28", "others", "the LAND");
        RenvoiDesk x = actedOnce();
        String before = Bounds.picture(x);
        for (int land : Bounds.outside(3)) {
            Check.due("say(" + land + ", 0, 1) of three", x.say(land, 0, 1), -1);
        }
        Bounds.stays(x, before, 1, 0);
        RenvoiDesk full = Check.told(Bounds.FULL);
        for (int land : Bounds.outside(6)) {
            Check.due("say(" + land + ", 5, 1) of six", full.say(land, 5, 1), -1);
        }
        Check.due("count(5)", full.count(5), 0);
    }

    private static void sayOtherIssues() {
        Bounds.sentence("Promise 28", "others", "the ISSUE");
        RenvoiDesk x = actedOnce();
        String before = Bounds.picture(x);
        for (int issue : Bounds.outside(2)) {
            Check.due("say(0, " + issue + ", 1) of two", x.say(0, issue, 1), -1);
        }
        Bounds.stays(x, before, 1, 0);
        RenvoiDesk full = Check.told(Bounds.FULL);
        for (int issue : Bounds.outside(6)) {
            Check.due("say(5, " + issue + ", 1) of six", full.say(5, issue, 1), -1);
        }
        Check.due("count(5)", full.count(5), 0);
    }

    // ---- Promise 29

    private static void heads(RenvoiDesk x, int... heads) {
        for (int issue = 0; issue < heads.length; issue++) {
            Check.due("head(" + issue + ")", x.head(issue), heads[issue]);
        }
    }

    private static void joinAllOfTheSame() {
        Bounds.sentence("Promise 29", "The HEAD of an ISSUE and of all that have the same one");
        RenvoiDesk x = Check.told(Bounds.FULL);
        x.join(0, 3);
        x.join(1, 3);
        Check.due("join(1, 5): no head itself", x.join(1, 5), 4);
        heads(x, 5, 5, 2, 5, 4, 5);
    }

    private static void joinThatOfAnotherOne() {
        Bounds.sentence("Promise 29", "is that of another one", "the HEAD of it, not itself");
        RenvoiDesk x = Check.told(Bounds.FULL);
        x.join(4, 0);
        Check.due("join(2, 4)", x.join(2, 4), 3);
        heads(x, 0, 1, 0, 3, 0, 5);
    }

    private static void joinHowMany() {
        Bounds.sentence("Promise 29", "how many ISSUES have this HEAD then", "two to six");
        RenvoiDesk x = Check.told(Bounds.FULL);
        for (int issue = 0; issue < 5; issue++) {
            Check.due("join(" + issue + ", 5)", x.join(issue, 5), issue + 2);
        }
        RenvoiDesk y = Check.told(Bounds.FULL);
        y.join(0, 1);
        y.join(1, 2);
        y.join(3, 4);
        y.join(4, 5);
        Check.due("three and three", y.join(0, 3), 6);
    }

    private static void joinNoSuchIssue() {
        Bounds.sentence("Promise 29", "none such", "the ISSUE");
        RenvoiDesk x = actedOnce();
        String before = Bounds.picture(x);
        for (int issue : Bounds.outside(2)) {
            Check.due("join(" + issue + ", 0) of two", x.join(issue, 0), -1);
        }
        Bounds.stays(x, before, 1, 0);
        RenvoiDesk full = Check.told(Bounds.FULL);
        for (int issue : Bounds.outside(6)) {
            Check.due("join(" + issue + ", 5) of six", full.join(issue, 5), -1);
        }
        Check.due("count(5)", full.count(5), 0);
    }

    private static void joinNoSuchOther() {
        Bounds.sentence("Promise 29", "none such", "the other one");
        RenvoiDesk x = actedOnce();
        String before = Bounds.picture(x);
        for (int other : Bounds.outside(2)) {
            Check.due("join(0, " + other + ") of two", x.join(0, other), -1);
            Check.due("join(" + other + ", " + other + ") of two", x.join(other, other), -1);
        }
        Bounds.stays(x, before, 1, 0);
        RenvoiDesk full = Check.told(Bounds.FULL);
        for (int other : Bounds.outside(6)) {
            Check.due("join(5, " + other + ") of six", full.join(5, other), -1);
        }
        Check.due("count(5)", full.count(5), 0);
    }

    private static void joinTheSameOne() {
        Bounds.sentence("Promise 29", "they have the same one", "itself, joined already, by a third one");
        RenvoiDesk x = Check.told(Bounds.FULL);
        Check.due("join(3, 3)", x.join(3, 3), -1);
        Check.due("count(5)", x.count(5), 0);
        x.join(0, 1);
        x.join(2, 1);
        for (int[] each : new int[][] {{0, 1}, {1, 0}, {0, 2}, {2, 0}, {0, 0}, {1, 1}}) {
            Check.due("join(" + each[0] + ", " + each[1] + ")", x.join(each[0], each[1]), -1);
        }
        heads(x, 1, 1, 1, 3, 4, 5);
        Check.due("count(5)", x.count(5), 2);
        x.cut(0);
        Check.due("join(0, 2) behind cut", x.join(0, 2), 3);
    }

    // ---- Promise 30

    private static void cutItsOwnHead() {
        Bounds.sentence("Promise 30", "An ISSUE is its own HEAD", "no HEAD ahead: the others keep theirs");
        RenvoiDesk x = Check.told(Bounds.FULL);
        x.join(0, 3);
        x.join(5, 3);
        Check.due("cut(5)", x.cut(5), 3);
        heads(x, 3, 1, 2, 3, 4, 5);
        Check.due("cut(0)", x.cut(0), 2);
        heads(x, 0, 1, 2, 3, 4, 5);
    }

    private static void cutTheFirstOfThem() {
        Bounds.sentence("Promise 30", "if others had it as theirs, the first of them is theirs (its own, too)");
        RenvoiDesk x = Check.told(Bounds.FULL);
        x.join(4, 3);
        x.join(1, 3);
        x.join(5, 3);
        Check.due("cut(3): the first is ahead of it", x.cut(3), 4);
        heads(x, 0, 1, 2, 3, 1, 1);
        RenvoiDesk y = Check.told(Bounds.FULL);
        y.join(5, 0);
        y.join(4, 0);
        Check.due("cut(0): the first is behind it", y.cut(0), 3);
        heads(y, 0, 1, 2, 3, 4, 4);
        Check.due("cut(4): one is left", y.cut(4), 2);
        heads(y, 0, 1, 2, 3, 4, 5);
    }

    private static void cutHowMany() {
        Bounds.sentence("Promise 30", "how many ISSUES had the same HEAD ahead", "six down to two");
        RenvoiDesk x = Check.told(Bounds.FULL);
        for (int issue = 0; issue < 5; issue++) {
            x.join(issue, 5);
        }
        for (int issue = 5; issue >= 1; issue--) {
            Check.due("cut(" + issue + ")", x.cut(issue), issue + 1);
        }
        Check.due("cut(0)", x.cut(0), -1);
        heads(x, 0, 1, 2, 3, 4, 5);
    }

    private static void cutNoneSuch() {
        Bounds.sentence("Promise 30", "none such");
        RenvoiDesk x = actedOnce();
        x.join(0, 1);
        String before = Bounds.picture(x);
        for (int issue : Bounds.outside(2)) {
            Check.due("cut(" + issue + ") of two", x.cut(issue), -1);
        }
        Bounds.stays(x, before, 2, 0);
        RenvoiDesk full = Check.told(Bounds.FULL);
        full.join(0, 5);
        for (int issue : Bounds.outside(6)) {
            Check.due("cut(" + issue + ") of six", full.cut(issue), -1);
        }
        Check.due("count(5)", full.count(5), 1);
    }

    private static void cutAlone() {
        Bounds.sentence("Promise 30", "it is alone");
        RenvoiDesk x = Check.told(Bounds.FULL);
        for (int issue = 0; issue < 6; issue++) {
            Check.due("cut(" + issue + ")", x.cut(issue), -1);
        }
        x.join(0, 1);
        Check.due("cut(2) of others joined", x.cut(2), -1);
        Check.due("cut(0) of two", x.cut(0), 2);
        Check.due("cut(1), left alone", x.cut(1), -1);
        Check.due("cut(0), cut already", x.cut(0), -1);
        Check.due("count(5)", x.count(5), 2);
    }

    // ---- Promise 31

    private static void mirrorAll() {
        Bounds.sentence("Promise 31", "(what is told of each is told of the other one: FACTS, THEORIES, RULES, answers): true",
                "the first and the last, in both orders; the others stay");
        String due = Bounds.picture(Check.told("land a 1;land b 1;land c 2;land d 3;land e 4;land f 0;"
                + "issue i;issue j;issue k;issue l;issue m;issue n;fact o f;fact p b;fact q c;fact r d;fact s e;"
                + "rule f i p whole;rule f n q inner;rule a i o inner;rule a n s whole;"
                + "law f i 1;law f n 99;law a i 7;law a n 8;deed t i;deed u n;deed v n i;deed w k;deed x i j k l m n;"));
        RenvoiDesk x = Check.told(Bounds.FULL);
        Check.due("mirror(0, 5)", x.mirror(0, 5), true);
        Check.due("what is told", Bounds.picture(x), due);
        x = Check.told(Bounds.FULL);
        Check.due("mirror(5, 0)", x.mirror(5, 0), true);
        Check.due("what is told", Bounds.picture(x), due);
    }

    private static void mirrorTwice() {
        Bounds.sentence("Promise 31", "Two LANDS are mirrored", "twice is as it was");
        RenvoiDesk x = Check.told(Bounds.SMALL);
        String before = Bounds.picture(x);
        Check.due("mirror(1, 2)", x.mirror(1, 2), true);
        Check.due("mirror(2, 1)", x.mirror(2, 1), true);
        Bounds.stays(x, before, 2, 0);
    }

    private static void mirrorNoneSuch() {
        Bounds.sentence("Promise 31", "none such", "the one, the other, both");
        RenvoiDesk x = actedOnce();
        String before = Bounds.picture(x);
        for (int land : Bounds.outside(3)) {
            Check.due("mirror(" + land + ", 0) of three", x.mirror(land, 0), false);
            Check.due("mirror(0, " + land + ") of three", x.mirror(0, land), false);
            Check.due("mirror(" + land + ", 5) of three", x.mirror(land, 5), false);
        }
        Bounds.stays(x, before, 1, 0);
        RenvoiDesk full = Check.told(Bounds.FULL);
        for (int land : Bounds.outside(6)) {
            Check.due("mirror(" + land + ", 5) of six", full.mirror(land, 5), false);
            Check.due("mirror(5, " + land + ") of six", full.mirror(5, land), false);
        }
        Check.due("count(5)", full.count(5), 0);
    }

    private static void mirrorOneAndTheSame() {
        Bounds.sentence("Promise 31", "one and the same");
        RenvoiDesk x = actedOnce();
        String before = Bounds.picture(x);
        for (int land = 0; land < 3; land++) {
            Check.due("mirror(" + land + ", " + land + ")", x.mirror(land, land), false);
        }
        Bounds.stays(x, before, 1, 0);
    }
}
