import java.io.IOException;

/** Boundary cases of promises 14 to 19: comes, answer, unlike, most, shop, tally. */
public final class BoundsAnswersTest {
    private static final String LANDS = "land a 0;land b 0;land c 0;land d 0;land e 0;land f 0;issue i;issue j;"
            + "fact o a;fact p b;fact q c;fact r d;fact s e;";
    /** f goes to a, b, c, and there is a loop of b and c. */
    private static final String LOOP = LANDS + "rule f i o whole;rule a i p whole;rule b i q whole;rule c i p whole;"
            + "law a i 10;law b i 20;law c i 30;law f i 60;";

    public static void main(String[] args) throws IOException {
        Bounds.open(args);
        comesByEach();
        comesByOwn();
        comesNoSuchLand();
        comesNoSuchIssue();
        comesOthers();
        answerByOwn();
        answerFrom0To99();
        answerNoSuchLand();
        answerNoSuchIssue();
        answerOthers();
        unlikeNoneAndAll();
        unlikeByLandsNotAnswers();
        unlikeNoSuchLand();
        unlikeNoSuchIssue();
        mostOnAnIssue();
        mostOfLikeOnes();
        mostByOwnTheory();
        mostHowMany();
        mostOthers();
        mostNoneSuch();
        mostNoLands();
        shopGreatest();
        shopFirst();
        shopOthers();
        shopNoneSuch();
        shopNoLands();
        tallyNoneAndAll();
        tallyOwnAnswers();
        tallyOnAllIssues();
        tallyBelow0();
        tallyAbove99();
        Check.finish();
    }

    // ---- Promise 14

    private static void comesByEach() {
        Bounds.sentence("Promise 14", "The LAND to whose INNER LAW it COMES by a THEORY", "each LAND by each THEORY");
        RenvoiDesk x = Check.told(LOOP);
        x.think(0, 3);
        x.think(1, 3);
        x.think(2, 1);
        int[][] due = {{1, 2, 1, 2, 0}, {2, 1, 1, 2, 1}, {1, 2, 2, 2, 2}, {3, 3, 3, 3, 3}, {4, 4, 4, 4, 4}, {0, 1, 1, 2, 5}};
        for (int land = 0; land < 6; land++) {
            for (int theory = 0; theory <= 4; theory++) {
                Check.due("comes(" + land + ", 0, " + theory + ")", x.comes(land, 0, theory), due[land][theory]);
            }
        }
    }

    private static void comesByOwn() {
        Bounds.sentence("Promise 14", "NONE: the LAND's own one");
        RenvoiDesk x = Check.told(LOOP);
        int[] due = {0, 1, 1, 1, 5};
        for (int theory = 0; theory <= 4; theory++) {
            x.think(5, theory);
            Check.due("comes(5, 0, -1) by " + theory, x.comes(5, 0, -1), due[theory]);
            Check.due("comes(5, 0, " + theory + ")", x.comes(5, 0, theory), due[theory]);
        }
    }

    private static void comesNoSuchLand() {
        Bounds.sentence("Promise 14", "none such", "the LAND");
        RenvoiDesk full = Check.told(LOOP);
        RenvoiDesk small = Check.told(Bounds.SMALL);
        for (int theory = -1; theory <= 4; theory++) {
            for (int land : Bounds.outside(6)) {
                Check.due("comes(" + land + ", 0, " + theory + ") of six", full.comes(land, 0, theory), -2);
            }
            for (int land : Bounds.outside(3)) {
                Check.due("comes(" + land + ", 0, " + theory + ") of three", small.comes(land, 0, theory), -2);
            }
        }
        Check.due("comes(0, 0, 0) of no lands", Check.told("issue i;").comes(0, 0, 0), -2);
    }

    private static void comesNoSuchIssue() {
        Bounds.sentence("Promise 14", "none such", "the ISSUE");
        RenvoiDesk full = Check.told(Bounds.FULL);
        RenvoiDesk small = Check.told(LOOP);
        for (int theory = -1; theory <= 4; theory++) {
            for (int issue : Bounds.outside(6)) {
                Check.due("comes(0, " + issue + ", " + theory + ") of six", full.comes(0, issue, theory), -2);
            }
            for (int issue : Bounds.outside(2)) {
                Check.due("comes(0, " + issue + ", " + theory + ") of two", small.comes(0, issue, theory), -2);
            }
        }
        Check.due("comes(0, 0, 0) of no issues", Check.told("land a 0;").comes(0, 0, 0), -2);
    }

    private static void comesOthers() {
        Bounds.sentence("Promise 14", "others", "THEORIES 0 to 4 and NONE, no other");
        RenvoiDesk x = Check.told(LOOP);
        for (int theory = -1; theory <= 4; theory++) {
            Check.due("comes(5, 0, " + theory + ")", x.comes(5, 0, theory) >= 0, true);
        }
        for (int theory : Bounds.outsideButNone(5)) {
            Check.due("comes(5, 0, " + theory + ")", x.comes(5, 0, theory), -2);
            Check.due("comes(3, 1, " + theory + ")", x.comes(3, 1, theory), -2);
        }
    }

    // ---- Promise 15

    private static void answerByOwn() {
        Bounds.sentence("Promise 15", "NONE: OWN");
        RenvoiDesk x = Check.told(LOOP);
        int[] due = {10, 20, 20, 20, 60};
        for (int theory = 0; theory <= 4; theory++) {
            x.think(5, theory);
            Check.due("answer(5, 0, -1) by " + theory, x.answer(5, 0, -1), due[theory]);
            Check.due("answer(5, 0, " + theory + ")", x.answer(5, 0, theory), due[theory]);
        }
    }

    private static void answerFrom0To99() {
        Bounds.sentence("Promise 15", "ANSWER by a THEORY", "0 and 99, told and not told");
        RenvoiDesk x = Check.told(LOOP);
        Check.due("answer(3, 0, 2): 0 without", x.answer(3, 0, 2), 0);
        x.say(3, 0, 99);
        Check.due("answer(3, 0, 2)", x.answer(3, 0, 2), 99);
        x.say(3, 0, 0);
        Check.due("answer(3, 0, 2)", x.answer(3, 0, 2), 0);
        Check.due("answer(3, 0, -1)", x.answer(3, 0, -1), 0);
    }

    private static void answerNoSuchLand() {
        Bounds.sentence("Promise 15", "none such", "the LAND");
        RenvoiDesk full = Check.told(LOOP);
        RenvoiDesk small = Check.told(Bounds.SMALL);
        for (int theory = -1; theory <= 4; theory++) {
            for (int land : Bounds.outside(6)) {
                Check.due("answer(" + land + ", 0, " + theory + ") of six", full.answer(land, 0, theory), -2);
            }
            for (int land : Bounds.outside(3)) {
                Check.due("answer(" + land + ", 0, " + theory + ") of three", small.answer(land, 0, theory), -2);
            }
        }
        Check.due("answer(0, 0, 0) of no lands", Check.told("issue i;").answer(0, 0, 0), -2);
    }

    private static void answerNoSuchIssue() {
        Bounds.sentence("Promise 15", "none such", "the ISSUE");
        RenvoiDesk full = Check.told(Bounds.FULL);
        RenvoiDesk small = Check.told(LOOP);
        for (int theory = -1; theory <= 4; theory++) {
            for (int issue : Bounds.outside(6)) {
                Check.due("answer(0, " + issue + ", " + theory + ") of six", full.answer(0, issue, theory), -2);
            }
            for (int issue : Bounds.outside(2)) {
                Check.due("answer(0, " + issue + ", " + theory + ") of two", small.answer(0, issue, theory), -2);
            }
        }
        Check.due("answer(0, 0, 0) of no issues", Check.told("land a 0;").answer(0, 0, 0), -2);
    }

    private static void answerOthers() {
        Bounds.sentence("Promise 15", "others", "THEORIES 0 to 4 and NONE, no other");
        RenvoiDesk x = Check.told(LOOP);
        for (int theory = -1; theory <= 4; theory++) {
            Check.due("answer(5, 0, " + theory + ")", x.answer(5, 0, theory) > 0, true);
        }
        for (int theory : Bounds.outsideButNone(5)) {
            Check.due("answer(5, 0, " + theory + ")", x.answer(5, 0, theory), -2);
            Check.due("answer(3, 1, " + theory + ")", x.answer(3, 1, theory), -2);
        }
    }

    // ---- Promise 16

    private static void unlikeNoneAndAll() {
        Bounds.sentence("Promise 16", "THEORIES (bits) by which it COMES to another LAND than by THEORY 2", "none to all but 2");
        RenvoiDesk x = Check.told(LOOP);
        Check.due("d has no rule", x.unlike(3, 0), 0);
        Check.due("d on j", x.unlike(3, 1), 0);
        Check.due("b comes to c, b, b, b, b", x.unlike(1, 0), 1);
        Check.due("f comes to a, b, b, b, f", x.unlike(5, 0), 17);
        x.think(0, 4);
        Check.due("f comes to a, b, b, a, f", x.unlike(5, 0), 25);
        x.point(2, 0, 4, true);
        Check.due("f comes to a, b, e, e, e", x.unlike(5, 0), 3);
        x.point(4, 0, 2, true);
        Check.due("f comes to a, b, c, a, f", x.unlike(5, 0), 27);
        x.tie(2, 4);
        x.think(0, 0);
        Check.due("f comes to a, b, e, b, e", x.unlike(5, 0), 11);
    }

    private static void unlikeByLandsNotAnswers() {
        Bounds.sentence("Promise 16", "it COMES to another LAND", "another LAND, also if it answers the same");
        RenvoiDesk x = Check.told(LOOP);
        for (int land = 0; land < 6; land++) {
            x.say(land, 0, 7);
        }
        Check.due("f comes to a, b, b, b, f", x.unlike(5, 0), 17);
        x.join(1, 0);
        Check.due("on j, which none answers", x.unlike(5, 1), 17);
    }

    private static void unlikeNoSuchLand() {
        Bounds.sentence("Promise 16", "none such", "the LAND");
        RenvoiDesk full = Check.told(LOOP);
        RenvoiDesk small = Check.told(Bounds.SMALL);
        for (int land : Bounds.outside(6)) {
            Check.due("unlike(" + land + ", 0) of six", full.unlike(land, 0), -1);
        }
        for (int land : Bounds.outside(3)) {
            Check.due("unlike(" + land + ", 0) of three", small.unlike(land, 0), -1);
        }
        Check.due("unlike(0, 0) of no lands", Check.told("issue i;").unlike(0, 0), -1);
    }

    private static void unlikeNoSuchIssue() {
        Bounds.sentence("Promise 16", "none such", "the ISSUE");
        RenvoiDesk full = Check.told(Bounds.FULL);
        RenvoiDesk small = Check.told(LOOP);
        for (int issue : Bounds.outside(6)) {
            Check.due("unlike(0, " + issue + ") of six", full.unlike(0, issue), -1);
        }
        for (int issue : Bounds.outside(2)) {
            Check.due("unlike(0, " + issue + ") of two", small.unlike(0, issue), -1);
        }
        Check.due("unlike(0, 0) of no issues", Check.told("land a 0;").unlike(0, 0), -1);
    }

    // ---- Promise 17

    private static void mostOnAnIssue() {
        Bounds.sentence("Promise 17", "The LAND to whose INNER LAW most LANDS come on an ISSUE",
                "of each ISSUE for itself; LANDS that come, not answers that are alike");
        RenvoiDesk x = Check.told(LANDS + "rule a i s inner;rule b i s inner;rule c j r inner;rule d j p inner;rule e j r inner;"
                + "law c i 7;law d i 7;law f i 7;law e i 1;");
        Check.due("most(0, 0)", x.most(0, 0), 4);
        Check.due("most(0, 1)", x.most(0, 1), 3);
        Check.due("most(1, 0)", x.most(1, 0), 1);
        Check.due("most(1, 1)", x.most(1, 1), 2);
        x.tie(3, 5);
        Check.due("most(1, 0), the last", x.most(1, 0), 5);
        Check.due("most(1, 1)", x.most(1, 1), 3);
        x.join(0, 1);
        Check.due("most(0, 0) by the head", x.most(0, 0), 5);
    }

    private static void mostOfLikeOnes() {
        Bounds.sentence("Promise 17", "of like ones the first) (what 0)");
        RenvoiDesk x = Check.told(LANDS + "rule e i r whole;rule f i q whole;");
        Check.due("most(0, 0): c and d have two each", x.most(0, 0), 2);
        Check.due("most(1, 0): all have one", x.most(1, 0), 0);
        x.point(0, 0, 3, true);
        Check.due("most(0, 0): d has three", x.most(0, 0), 3);
        x.point(0, 0, 1, false);
        x.point(1, 0, 2, false);
        Check.due("most(0, 0): c has three", x.most(0, 0), 2);
    }

    private static void mostByOwnTheory() {
        Bounds.sentence("Promise 17", "(each by its OWN THEORY");
        RenvoiDesk x = Check.told(LOOP);
        x.think(0, 1);
        x.think(5, 4);
        Check.due("a to c, b to c, c to b, f to f", x.most(0, 0), 2);
        Check.due("how many", x.most(0, 1), 2);
        x.think(0, 2);
        x.think(1, 2);
        x.think(5, 2);
        Check.due("a, b, c, f to b", x.most(0, 0), 1);
        Check.due("how many", x.most(0, 1), 4);
    }

    private static void mostHowMany() {
        Bounds.sentence("Promise 17", "how many (1)", "one to six");
        RenvoiDesk x = Check.told(LANDS);
        Check.due("most(0, 1)", x.most(0, 1), 1);
        for (int land = 0; land < 5; land++) {
            x.point(land, 0, 4, false);
            Check.due("most(0, 0)", x.most(0, 0), 4);
            Check.due("most(0, 1)", x.most(0, 1), Math.min(land + 2, 5));
        }
        x.point(5, 0, 4, true);
        Check.due("most(0, 1) of six", x.most(0, 1), 6);
        Check.due("most(0, 1) of one land", Check.told("land a 0;issue i;").most(0, 1), 1);
    }

    private static void mostOthers() {
        Bounds.sentence("Promise 17", "others");
        RenvoiDesk x = Check.told(LOOP);
        for (int what : Bounds.outside(2)) {
            Check.due("most(0, " + what + ")", x.most(0, what), -1);
        }
    }

    private static void mostNoneSuch() {
        Bounds.sentence("Promise 17", "none such");
        RenvoiDesk full = Check.told(Bounds.FULL);
        RenvoiDesk small = Check.told(LOOP);
        for (int what = 0; what <= 1; what++) {
            for (int issue : Bounds.outside(6)) {
                Check.due("most(" + issue + ", " + what + ") of six", full.most(issue, what), -1);
            }
            for (int issue : Bounds.outside(2)) {
                Check.due("most(" + issue + ", " + what + ") of two", small.most(issue, what), -1);
            }
        }
        Check.due("most(5, 1) of six", full.most(5, 1) > 0, true);
    }

    private static void mostNoLands() {
        Bounds.sentence("Promise 17", "no LANDS");
        RenvoiDesk x = Check.told("issue i;deed d i;");
        Check.due("most(0, 0)", x.most(0, 0), -1);
        Check.due("most(0, 1)", x.most(0, 1), -1);
        x = Check.told("land a 0;issue i;");
        Check.due("most(0, 0) of one", x.most(0, 0), 0);
    }

    // ---- Promise 18

    private static void shopGreatest() {
        Bounds.sentence("Promise 18", "The greatest OWN ANSWER of any LAND on an ISSUE (what 0)", "0 to 99, OWN");
        RenvoiDesk x = Check.told(LOOP);
        Check.due("shop(1, 0): none is told", x.shop(1, 0), 0);
        Check.due("shop(0, 0): to 60 none comes", x.shop(0, 0), 30);
        x.think(5, 4);
        Check.due("shop(0, 0): f by 4", x.shop(0, 0), 60);
        x.say(3, 0, 99);
        Check.due("shop(0, 0)", x.shop(0, 0), 99);
    }

    private static void shopFirst() {
        Bounds.sentence("Promise 18", "the first LAND with it (1)");
        RenvoiDesk x = Check.told(LOOP);
        Check.due("shop(1, 1): all have 0", x.shop(1, 1), 0);
        Check.due("shop(0, 1): b comes to c", x.shop(0, 1), 1);
        x.think(0, 1);
        Check.due("shop(0, 1): a comes to c, too", x.shop(0, 1), 0);
        x.think(5, 4);
        Check.due("shop(0, 1): the last one", x.shop(0, 1), 5);
        x.say(3, 0, 60);
        Check.due("shop(0, 1): one of two", x.shop(0, 1), 3);
    }

    private static void shopOthers() {
        Bounds.sentence("Promise 18", "others");
        RenvoiDesk x = Check.told(LOOP);
        for (int what : Bounds.outside(2)) {
            Check.due("shop(0, " + what + ")", x.shop(0, what), -1);
        }
    }

    private static void shopNoneSuch() {
        Bounds.sentence("Promise 18", "none such");
        RenvoiDesk full = Check.told(Bounds.FULL);
        RenvoiDesk small = Check.told(LOOP);
        for (int what = 0; what <= 1; what++) {
            for (int issue : Bounds.outside(6)) {
                Check.due("shop(" + issue + ", " + what + ") of six", full.shop(issue, what), -1);
            }
            for (int issue : Bounds.outside(2)) {
                Check.due("shop(" + issue + ", " + what + ") of two", small.shop(issue, what), -1);
            }
        }
        Check.due("shop(5, 1) of six", full.shop(5, 1) >= 0, true);
    }

    private static void shopNoLands() {
        Bounds.sentence("Promise 18", "no LANDS");
        RenvoiDesk x = Check.told("issue i;deed d i;");
        Check.due("shop(0, 0)", x.shop(0, 0), -1);
        Check.due("shop(0, 1)", x.shop(0, 1), -1);
        x = Check.told("land a 0;issue i;");
        Check.due("shop(0, 0) of one", x.shop(0, 0), 0);
        Check.due("shop(0, 1) of one", x.shop(0, 1), 0);
    }

    // ---- Promise 19

    private static void tallyNoneAndAll() {
        Bounds.sentence("Promise 19", "How often an OWN ANSWER is v, of all LANDS on all ISSUES", "none to 36");
        Check.due("tally(0) of a new one", new RenvoiDesk().tally(0), 0);
        Check.due("tally(0) of no lands", Check.told("issue i;issue j;").tally(0), 0);
        Check.due("tally(0) of no issues", Check.told("land a 0;land b 0;").tally(0), 0);
        RenvoiDesk x = Check.told(Bounds.FULL);
        for (int land = 0; land < 6; land++) {
            for (int issue = 0; issue < 6; issue++) {
                x.point(land, issue, -1, true);
                x.say(land, issue, 99);
            }
        }
        Check.due("tally(99) of all", x.tally(99), 36);
        Check.due("tally(0) of all", x.tally(0), 0);
        x.say(5, 5, 0);
        Check.due("tally(99) of all but one", x.tally(99), 35);
        Check.due("tally(0) of one", x.tally(0), 1);
    }

    private static void tallyOwnAnswers() {
        Bounds.sentence("Promise 19", "How often an OWN ANSWER is v", "OWN, not of its INNER LAW");
        RenvoiDesk x = Check.told(LOOP);
        Check.due("tally(10): f", x.tally(10), 1);
        Check.due("tally(20): a, c", x.tally(20), 2);
        Check.due("tally(30): b", x.tally(30), 1);
        Check.due("tally(60): none", x.tally(60), 0);
        x.think(5, 4);
        Check.due("tally(60): f by 4", x.tally(60), 1);
        Check.due("tally(10): none", x.tally(10), 0);
    }

    private static void tallyOnAllIssues() {
        Bounds.sentence("Promise 19", "of all LANDS on all ISSUES", "each for itself, also if they are joined");
        RenvoiDesk x = Check.told(LOOP);
        for (int land = 0; land < 6; land++) {
            x.say(land, 1, 50 + land);
        }
        x.join(1, 0);
        Check.due("tally(20)", x.tally(20), 2);
        Check.due("tally(50): f on j", x.tally(50), 1);
        Check.due("tally(51): a, c on j", x.tally(51), 2);
        Check.due("tally(52): b on j", x.tally(52), 1);
        Check.due("tally(55): none", x.tally(55), 0);
        Check.due("shop(1, 0) goes by j, too", x.shop(1, 0), 54);
        Check.due("shop(1, 1)", x.shop(1, 1), 4);
    }

    private static void tallyBelow0() {
        Bounds.sentence("Promise 19", "v below 0");
        RenvoiDesk x = Check.told(LOOP);
        Check.due("tally(0)", x.tally(0), 8);
        for (int v : new int[] {-1, -2, -99, -100, Integer.MIN_VALUE}) {
            Check.due("tally(" + v + ")", x.tally(v), -1);
        }
    }

    private static void tallyAbove99() {
        Bounds.sentence("Promise 19", "above 99");
        RenvoiDesk x = Check.told(LOOP);
        Check.due("tally(99)", x.tally(99), 0);
        for (int v : new int[] {100, 101, 127, 128, 256, Integer.MAX_VALUE}) {
            Check.due("tally(" + v + ")", x.tally(v), -1);
        }
        Check.due("tally(100) of a new one", new RenvoiDesk().tally(100), -1);
    }
}
