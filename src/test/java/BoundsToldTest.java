import java.io.IOException;

/** Boundary cases of Terms 2 (HEADS, RULES, INNER LAW) and of promises 4 to 9: land, fact, rule, inner, head, deed. */
public final class BoundsToldTest {
    public static void main(String[] args) throws IOException {
        Bounds.open(args);
        headAtFirst();
        ruleOfTheHead();
        ruleIfOneIs();
        innerOfTheIssueItself();
        innerWithout();
        landTheory();
        landRules();
        landIssues();
        landIssuesByHeads();
        landOthers();
        landNoneSuch();
        factTells();
        factNoneSuch();
        ruleOfAll();
        ruleByItsHead();
        ruleThereIsNone();
        ruleOthers();
        ruleNoSuchLand();
        ruleNoSuchIssue();
        innerAnswers();
        innerNoSuchLand();
        innerNoSuchIssue();
        headOfAll();
        headNoneSuch();
        deedBits();
        deedNoneSuch();
        Check.finish();
    }

    // ---- Terms 2

    private static void headAtFirst() {
        Bounds.sentence("Terms 2", "An ISSUE has a HEAD: itself at first");
        RenvoiDesk x = Check.told(Bounds.FULL);
        for (int issue = 0; issue < 6; issue++) {
            Check.due("head(" + issue + ")", x.head(issue), issue);
        }
        x.join(0, 5);
        Check.desk(x, Bounds.FULL);
        Check.due("head(0) of the text told anew", x.head(0), 0);
    }

    private static void ruleOfTheHead() {
        Bounds.sentence("Terms 2", "that which is told of it and the HEAD", "not of the ISSUE itself");
        RenvoiDesk x = Check.told("land a 0;land b 0;issue i;issue j;fact f a;fact g b;rule a i f whole;rule a j g inner;");
        x.join(0, 1);
        Check.due("the rule told of j holds on i", x.rule(0, 0, 0), 1);
        Check.due("its way", x.rule(0, 0, 1), 0);
        Check.due("the road on i", x.road(0, 0, -1), 2);
        x.point(0, 0, -1, true);
        Check.due("also without one told of i", x.rule(0, 0, 0), 1);
        x.cut(0);
        Check.due("apart, i has what is told of it: none", x.rule(0, 0, 0), -2);
    }

    private static void ruleIfOneIs() {
        Bounds.sentence("Terms 2", "that which is told of it and the HEAD, if one is");
        RenvoiDesk x = Check.told("land a 0;land b 0;issue i;issue j;fact g b;rule a i g whole;");
        x.join(0, 1);
        Check.due("none is told of j: i has none", x.rule(0, 0, 0), -2);
        Check.due("the road on i ends at once", x.ends(0, 0, 0), 0);
        Check.due("b has none on i", x.rule(1, 0, 0), -2);
        x.cut(0);
        Check.due("apart, i has its own one", x.rule(0, 0, 0), 0);
    }

    private static void innerOfTheIssueItself() {
        Bounds.sentence("Terms 2", "INNER LAW of a LAND answers what is told of it and the ISSUE itself");
        RenvoiDesk x = Check.told("land a 0;issue i;issue j;law a i 5;law a j 7;");
        x.join(0, 1);
        Check.due("inner(0, 0)", x.inner(0, 0), 5);
        Check.due("answer(0, 0, 2)", x.answer(0, 0, 2), 5);
        x.join(1, 0);
        Check.due("inner(0, 1)", x.inner(0, 1), 7);
    }

    private static void innerWithout() {
        Bounds.sentence("Terms 2", "(0 without)");
        RenvoiDesk x = Check.told(Bounds.FULL);
        Check.due("inner(0, 1)", x.inner(0, 1), 0);
        Check.due("inner(5, 4)", x.inner(5, 4), 0);
        Check.due("inner(1, 0)", x.inner(1, 0), 0);
        Check.due("inner(4, 5)", x.inner(4, 5), 0);
        x.join(1, 0);
        Check.due("inner(0, 1), joined to one with an answer", x.inner(0, 1), 0);
    }

    // ---- Promise 4

    private static void landTheory() {
        Bounds.sentence("Promise 4", "Of a LAND, what 0: THEORY");
        RenvoiDesk x = Check.told(Bounds.FULL);
        int[] due = {0, 1, 2, 3, 4, 1};
        for (int land = 0; land < 6; land++) {
            Check.due("land(" + land + ", 0)", x.land(land, 0), due[land]);
        }
    }

    private static void landRules() {
        Bounds.sentence("Promise 4", "1: how many RULES are told of it", "none to six, whatever the HEADS");
        RenvoiDesk x = Check.told(Bounds.FULL);
        Check.due("land(0, 1)", x.land(0, 1), 2);
        Check.due("land(1, 1)", x.land(1, 1), 0);
        Check.due("land(5, 1)", x.land(5, 1), 2);
        for (int issue = 0; issue < 6; issue++) {
            x.point(1, issue, 0, true);
            Check.due("land(1, 1)", x.land(1, 1), issue + 1);
        }
        x.point(1, 5, 1, false);
        Check.due("told once more: still six", x.land(1, 1), 6);
        x.join(0, 5);
        Check.due("joined: still six", x.land(1, 1), 6);
        x.point(1, 0, -1, false);
        Check.due("one is none any more", x.land(1, 1), 5);
    }

    private static void landIssues() {
        Bounds.sentence("Promise 4", "2: ISSUES (bits) on which it has a RULE", "none to six");
        RenvoiDesk x = Check.told(Bounds.FULL);
        Check.due("land(0, 2)", x.land(0, 2), 33);
        Check.due("land(1, 2)", x.land(1, 2), 0);
        for (int issue = 0; issue < 6; issue++) {
            x.point(1, issue, 0, false);
            Check.due("land(1, 2)", x.land(1, 2), (2 << issue) - 1);
        }
    }

    private static void landIssuesByHeads() {
        Bounds.sentence("Promise 4", "(by HEADS)");
        RenvoiDesk x = Check.told(Bounds.FULL);
        for (int issue = 1; issue < 5; issue++) {
            x.join(issue, 5);
        }
        Check.due("five by one rule", x.land(0, 2), 63);
        Check.due("still two told", x.land(0, 1), 2);
        x.join(5, 0);
        Check.due("all by one rule", x.land(0, 2), 63);
        x.point(0, 0, -1, true);
        Check.due("none by the head's", x.land(0, 2), 0);
        Check.due("one told", x.land(0, 1), 1);
    }

    private static void landOthers() {
        Bounds.sentence("Promise 4", "others");
        RenvoiDesk x = Check.told(Bounds.FULL);
        for (int what : Bounds.outside(3)) {
            Check.due("land(0, " + what + ")", x.land(0, what), -1);
            Check.due("land(5, " + what + ")", x.land(5, what), -1);
        }
    }

    private static void landNoneSuch() {
        Bounds.sentence("Promise 4", "none such");
        RenvoiDesk full = Check.told(Bounds.FULL);
        RenvoiDesk small = Check.told(Bounds.SMALL);
        for (int what = 0; what <= 2; what++) {
            Check.due("land(5, " + what + ") of six", full.land(5, what) >= 0, true);
            Check.due("land(2, " + what + ") of three", small.land(2, what) >= 0, true);
            for (int land : Bounds.outside(6)) {
                Check.due("land(" + land + ", " + what + ") of six", full.land(land, what), -1);
            }
            for (int land : Bounds.outside(3)) {
                Check.due("land(" + land + ", " + what + ") of three", small.land(land, what), -1);
            }
        }
    }

    // ---- Promise 5

    private static void factTells() {
        Bounds.sentence("Promise 5", "The LAND that a FACT tells");
        RenvoiDesk x = Check.told(Bounds.FULL);
        for (int fact = 0; fact < 5; fact++) {
            Check.due("fact(" + fact + ")", x.fact(fact), fact);
        }
        x.tie(4, 5);
        Check.due("fact(4): the last land", x.fact(4), 5);
    }

    private static void factNoneSuch() {
        Bounds.sentence("Promise 5", "none such");
        RenvoiDesk full = Check.told(Bounds.FULL);
        RenvoiDesk small = Check.told(Bounds.SMALL);
        for (int fact : Bounds.outside(5)) {
            Check.due("fact(" + fact + ") of five", full.fact(fact), -1);
        }
        for (int fact : Bounds.outside(2)) {
            Check.due("fact(" + fact + ") of two", small.fact(fact), -1);
        }
        Check.due("fact(0) of none", Check.told("land a 0;").fact(0), -1);
    }

    // ---- Promise 6

    private static void ruleOfAll() {
        Bounds.sentence("Promise 6", "what 0: the FACT, 1: 1 whole, 0 inner, 2: the LAND to which it points");
        RenvoiDesk x = Check.told(Bounds.FULL);
        int[][] due = {{0, 0, 1, 1, 1}, {0, 5, 2, 0, 2}, {5, 0, 0, 0, 0}, {5, 5, 4, 1, 4}};
        for (int[] each : due) {
            for (int what = 0; what <= 2; what++) {
                Check.due("rule(" + each[0] + ", " + each[1] + ", " + what + ")",
                        Bounds.rule(x, each[0], each[1], what), each[2 + what]);
            }
        }
        x.tie(4, 5);
        Check.due("rule(5, 5, 2) that points to itself", x.rule(5, 5, 2), 5);
        Check.due("rule(5, 5, 0), the same fact", x.rule(5, 5, 0), 4);
    }

    private static void ruleByItsHead() {
        Bounds.sentence("Promise 6", "The RULE of a LAND on an ISSUE (by its HEAD)");
        RenvoiDesk x = Check.told(Bounds.FULL);
        x.join(0, 5);
        Check.due("rule(0, 0, 0)", x.rule(0, 0, 0), 2);
        Check.due("rule(0, 0, 1)", x.rule(0, 0, 1), 0);
        Check.due("rule(0, 0, 2)", x.rule(0, 0, 2), 2);
        x.join(5, 1);
        Check.due("rule(0, 0, 0), none told of the head", x.rule(0, 0, 0), -2);
        Check.due("rule(0, 5, 0), none told of the head", x.rule(0, 5, 0), -2);
    }

    private static void ruleThereIsNone() {
        Bounds.sentence("Promise 6", "there is none");
        RenvoiDesk x = Check.told(Bounds.FULL);
        for (int what = 0; what <= 2; what++) {
            Check.due("rule(1, 0, " + what + ")", Bounds.rule(x, 1, 0, what), -2);
            Check.due("rule(0, 1, " + what + ")", Bounds.rule(x, 0, 1, what), -2);
            Check.due("rule(5, 4, " + what + ")", Bounds.rule(x, 5, 4, what), -2);
            Check.due("rule(4, 5, " + what + ")", Bounds.rule(x, 4, 5, what), -2);
        }
        x.point(0, 0, -1, true);
        Check.due("rule(0, 0, 1), none any more", x.rule(0, 0, 1), -2);
        Check.due("rule(0, 0, 0) of a desk without facts", Check.told("land a 0;issue i;").rule(0, 0, 0), -2);
    }

    private static void ruleOthers() {
        Bounds.sentence("Promise 6", "others", "also where there is no RULE");
        RenvoiDesk x = Check.told(Bounds.FULL);
        for (int what : Bounds.outside(3)) {
            Check.ruleThrows("rule(0, 0, " + what + ")", x, 0, 0, what);
            Check.ruleThrows("rule(1, 1, " + what + ")", x, 1, 1, what);
        }
    }

    private static void ruleNoSuchLand() {
        Bounds.sentence("Promise 6", "none such", "the LAND");
        RenvoiDesk full = Check.told(Bounds.FULL);
        RenvoiDesk small = Check.told(Bounds.SMALL);
        for (int what = 0; what <= 2; what++) {
            for (int land : Bounds.outside(6)) {
                Check.ruleThrows("rule(" + land + ", 0, " + what + ") of six", full, land, 0, what);
            }
            for (int land : Bounds.outside(3)) {
                Check.ruleThrows("rule(" + land + ", 1, " + what + ") of three", small, land, 1, what);
            }
        }
    }

    private static void ruleNoSuchIssue() {
        Bounds.sentence("Promise 6", "none such", "the ISSUE");
        RenvoiDesk full = Check.told(Bounds.FULL);
        RenvoiDesk small = Check.told(Bounds.SMALL);
        for (int what = 0; what <= 2; what++) {
            for (int issue : Bounds.outside(6)) {
                Check.ruleThrows("rule(0, " + issue + ", " + what + ") of six", full, 0, issue, what);
            }
            for (int issue : Bounds.outside(2)) {
                Check.ruleThrows("rule(1, " + issue + ", " + what + ") of two", small, 1, issue, what);
            }
        }
    }

    // ---- Promise 7

    private static void innerAnswers() {
        Bounds.sentence("Promise 7", "What INNER LAW of a LAND answers on an ISSUE");
        RenvoiDesk x = Check.told(Bounds.FULL);
        Check.due("inner(0, 0)", x.inner(0, 0), 1);
        Check.due("inner(0, 5)", x.inner(0, 5), 99);
        Check.due("inner(5, 0)", x.inner(5, 0), 7);
        Check.due("inner(5, 5)", x.inner(5, 5), 8);
    }

    private static void innerNoSuchLand() {
        Bounds.sentence("Promise 7", "none such", "the LAND");
        RenvoiDesk full = Check.told(Bounds.FULL);
        RenvoiDesk small = Check.told(Bounds.SMALL);
        for (int land : Bounds.outside(6)) {
            Check.due("inner(" + land + ", 0) of six", full.inner(land, 0), -1);
            Check.due("inner(" + land + ", 5) of six", full.inner(land, 5), -1);
        }
        for (int land : Bounds.outside(3)) {
            Check.due("inner(" + land + ", 0) of three", small.inner(land, 0), -1);
        }
    }

    private static void innerNoSuchIssue() {
        Bounds.sentence("Promise 7", "none such", "the ISSUE");
        RenvoiDesk full = Check.told(Bounds.FULL);
        RenvoiDesk small = Check.told(Bounds.SMALL);
        for (int issue : Bounds.outside(6)) {
            Check.due("inner(0, " + issue + ") of six", full.inner(0, issue), -1);
            Check.due("inner(5, " + issue + ") of six", full.inner(5, issue), -1);
        }
        for (int issue : Bounds.outside(2)) {
            Check.due("inner(1, " + issue + ") of two", small.inner(1, issue), -1);
        }
    }

    // ---- Promise 8

    private static void headOfAll() {
        Bounds.sentence("Promise 8", "The HEAD of an ISSUE", "all under the last one, all under the first one");
        RenvoiDesk x = Check.told(Bounds.FULL);
        for (int issue = 0; issue < 5; issue++) {
            x.join(issue, 5);
        }
        for (int issue = 0; issue < 6; issue++) {
            Check.due("head(" + issue + ")", x.head(issue), 5);
        }
        x.cut(0);
        x.join(5, 0);
        for (int issue = 0; issue < 6; issue++) {
            Check.due("head(" + issue + ")", x.head(issue), 0);
        }
    }

    private static void headNoneSuch() {
        Bounds.sentence("Promise 8", "none such");
        RenvoiDesk full = Check.told(Bounds.FULL);
        RenvoiDesk small = Check.told(Bounds.SMALL);
        for (int issue : Bounds.outside(6)) {
            Check.due("head(" + issue + ") of six", full.head(issue), -1);
        }
        for (int issue : Bounds.outside(2)) {
            Check.due("head(" + issue + ") of two", small.head(issue), -1);
        }
    }

    // ---- Promise 9

    private static void deedBits() {
        Bounds.sentence("Promise 9", "ISSUES of a DEED, as bits", "itself, not its HEADS");
        RenvoiDesk x = Check.told(Bounds.FULL);
        int[] due = {1, 32, 33, 4, 63};
        x.join(0, 5);
        for (int deed = 0; deed < 5; deed++) {
            Check.due("deed(" + deed + ")", x.deed(deed), due[deed]);
        }
    }

    private static void deedNoneSuch() {
        Bounds.sentence("Promise 9", "none such");
        RenvoiDesk full = Check.told(Bounds.FULL);
        RenvoiDesk small = Check.told(Bounds.SMALL);
        for (int deed : Bounds.outside(5)) {
            Check.due("deed(" + deed + ") of five", full.deed(deed), -1);
        }
        for (int deed : Bounds.outside(2)) {
            Check.due("deed(" + deed + ") of two", small.deed(deed), -1);
        }
        Check.due("deed(0) of none", Check.told("issue i;").deed(0), -1);
    }
}
