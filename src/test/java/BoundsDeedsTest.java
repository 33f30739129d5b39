import java.io.IOException;

/** Boundary cases of Terms 2 (STANDS, LIMPS), Terms 3 (BEST CHANGE, FEWEST) and of promises 20 to 24: stands to fewest. */
public final class BoundsDeedsTest {
    private static final String LANDS = "land a 0;land b 0;land c 0;land d 0;land e 0;land f 0;issue i;issue j;";
    /** Each of the first five lands points to itself by a fact of its own; f alone answers on i. */
    private static final String FIVE = LANDS + "fact o a;fact p b;fact q c;fact r d;fact s e;"
            + "rule a i o inner;rule b i p inner;rule c i q inner;rule d i r inner;rule e i s inner;law f i 1;deed t i;deed u j;";

    public static void main(String[] args) throws IOException {
        Bounds.open(args);
        standsEachForItself();
        standsAbove0();
        standsOnAll();
        standsByOwnAnswers();
        limpsSomeAndNot();
        bestOfADeed();
        bestUnlikeTheOneTold();
        bestTheFirst();
        bestTheMost();
        bestAlsoWorse();
        fewestOfADeed();
        fewestTwoAtMost();
        fewestOther();
        standsAnswers();
        standsNoSuchDeed();
        standsNoSuchLand();
        whereNoneAndAll();
        whereNoneSuch();
        limpsNoneAndAll();
        bestOfWhat();
        bestLeavesAllAlone();
        bestOthers();
        bestNoneSuch();
        bestNoFacts();
        bestFewerThanTwoLands();
        fewest0();
        fewestNotByTwo();
        fewestNoneSuch();
        fewestLeavesAllAlone();
        Check.finish();
    }

    // ---- Terms 2: STANDS, LIMPS

    private static void standsEachForItself() {
        Bounds.sentence("Terms 2", "A DEED STANDS in a LAND, if the OWN ANSWERS there", "each DEED in each LAND for itself");
        RenvoiDesk x = Check.told("land a 0;land b 0;land c 0;land d 0;issue i;issue j;law a i 1;law c i 1;law b j 1;law c j 1;"
                + "deed k i;deed l j;deed m i j;");
        int[] due = {5, 6, 4};
        for (int deed = 0; deed < 3; deed++) {
            for (int land = 0; land < 4; land++) {
                Check.due("stands(" + deed + ", " + land + ")", x.stands(deed, land), due[deed] >> land & 1);
            }
        }
    }

    private static void standsAbove0() {
        Bounds.sentence("Terms 2", "are above 0", "0 not, 1 and 99");
        RenvoiDesk x = Check.told("land a 0;issue i;deed d i;");
        Check.due("without an answer", x.stands(0, 0), 0);
        for (int v : new int[] {0, 1, 2, 99, 0}) {
            x.say(0, 0, v);
            Check.due("answer " + v, x.stands(0, 0), v > 0 ? 1 : 0);
        }
    }

    private static void standsOnAll() {
        Bounds.sentence("Terms 2", "on all of its ISSUES", "each of the six for itself, others none");
        RenvoiDesk x = Check.told(Bounds.FULL);
        for (int issue = 0; issue < 6; issue++) {
            x.say(1, issue, 1);
        }
        Check.due("all six", x.stands(4, 1), 1);
        for (int issue = 0; issue < 6; issue++) {
            x.say(1, issue, 0);
            Check.due("all but " + issue, x.stands(4, 1), 0);
            Check.due("a deed of k alone, all but " + issue, x.stands(3, 1), issue == 2 ? 0 : 1);
            x.say(1, issue, 1);
        }
    }

    private static void standsByOwnAnswers() {
        Bounds.sentence("Terms 2", "if the OWN ANSWERS there");
        RenvoiDesk x = Check.told("land a 0;land b 0;land c 0;issue i;fact f b;fact g c;rule a i f whole;rule b i g whole;"
                + "law c i 1;deed d i;");
        Check.due("a comes to b", x.stands(0, 0), 0);
        x.think(0, 1);
        Check.due("a comes to c", x.stands(0, 0), 1);
        x.say(2, 0, 0);
        x.say(0, 0, 5);
        Check.due("what a answers itself is nothing", x.stands(0, 0), 0);
        RenvoiDesk y = Check.told("land a 0;issue i;issue j;law a i 1;deed d i;deed e j;");
        y.join(0, 1);
        Check.due("joined, the answer is on the issue itself", y.stands(0, 0), 1);
        Check.due("joined, the answer is on the issue itself", y.stands(1, 0), 0);
        y.cut(0);
        y.join(1, 0);
        Check.due("joined, the answer is not on its head", y.stands(1, 0), 0);
    }

    private static void limpsSomeAndNot() {
        Bounds.sentence("Terms 2", "It LIMPS, if it STANDS in some LAND, in another one not", "in all, in none: not");
        RenvoiDesk x = Check.told(LANDS + "deed k i;deed l j;");
        Check.due("in none", x.limps(), 0);
        for (int land = 0; land < 6; land++) {
            x.say(land, 0, 1);
            Check.due("in " + (land + 1), x.limps(), land < 5 ? 1 : 0);
        }
        RenvoiDesk y = Check.told("land a 0;issue i;deed d i;");
        Check.due("one land, in none", y.limps(), 0);
        y.say(0, 0, 1);
        Check.due("one land, in all", y.limps(), 0);
    }

    // ---- Terms 3: BEST CHANGE, FEWEST

    private static void best(RenvoiDesk x, int deed, int fact, int land, int many) {
        Check.due("best(" + deed + ", 0)", x.best(deed, 0), fact);
        Check.due("best(" + deed + ", 1)", x.best(deed, 1), land);
        Check.due("best(" + deed + ", 2)", x.best(deed, 2), many);
    }

    /** On i all point by f, on j by g; b alone answers on i, c alone on j. */
    private static final String TWO_DEEDS = "land a 0;land b 0;land c 0;issue i;issue j;fact f a;fact g a;"
            + "rule a i f inner;rule b i f inner;rule c i f inner;rule a j g inner;rule b j g inner;rule c j g inner;"
            + "law b i 1;law c j 1;deed k i;deed l j;deed m i j;";

    private static void bestOfADeed() {
        Bounds.sentence("Terms 3", "BEST CHANGE of a DEED: of all FACTS", "of each DEED for itself");
        RenvoiDesk x = Check.told(TWO_DEEDS);
        best(x, 0, 0, 1, 3);
        best(x, 1, 1, 2, 3);
        best(x, 2, 0, 1, 0);
        x.tie(0, 1);
        best(x, 2, 1, 2, 3);
    }

    private static void fewestOfADeed() {
        Bounds.sentence("Terms 3", "FEWEST of a DEED: how few FACTS (2 at most)", "of each DEED for itself");
        RenvoiDesk x = Check.told(TWO_DEEDS);
        fewestOfThree(x, 1, 1, 2);
        x.tie(0, 1);
        fewestOfThree(x, 0, 1, 1);
        x.tie(1, 2);
        fewestOfThree(x, 0, 0, 0);
    }

    private static void fewestOfThree(RenvoiDesk x, int... due) {
        for (int deed = 0; deed < 3; deed++) {
            Check.due("fewest(" + deed + ")", x.fewest(deed), due[deed]);
        }
    }

    private static void bestUnlikeTheOneTold() {
        Bounds.sentence("Terms 3", "LANDS (unlike the one that it tells)");
        RenvoiDesk x = Check.told("land a 0;land b 0;issue i;fact f a;rule a i f inner;rule b i f inner;law a i 1;deed d i;");
        best(x, 0, 0, 1, 0);
        x.tie(0, 1);
        best(x, 0, 0, 0, 2);
    }

    private static void bestTheFirst() {
        Bounds.sentence("Terms 3", "of all FACTS, then LANDS", "of like ones the first");
        RenvoiDesk x = Check.told("land a 0;land b 0;land c 0;issue i;issue j;fact f a;fact g a;"
                + "rule a i f inner;rule b i g inner;law b i 1;law c i 1;law a j 1;deed d i;deed e j;");
        best(x, 0, 0, 1, 2);
        best(x, 1, 0, 1, 1);
        x.tie(0, 1);
        best(x, 0, 1, 1, 3);
        x.tie(1, 2);
        best(x, 0, 0, 2, 3);
        best(x, 1, 0, 0, 1);
    }

    private static void bestTheMost() {
        Bounds.sentence("Terms 3", "the DEED STANDS in the most LANDS", "the last FACT, the last LAND");
        RenvoiDesk x = Check.told(FIVE);
        best(x, 0, 0, 5, 2);
        x.tie(0, 5);
        best(x, 0, 1, 5, 3);
        x.tie(1, 5);
        x.tie(2, 5);
        x.tie(3, 5);
        best(x, 0, 4, 5, 6);
        x.tie(4, 5);
        best(x, 0, 0, 0, 5);
    }

    private static void bestAlsoWorse() {
        Bounds.sentence("Terms 3", "the first by which, the FACT telling that LAND", "it is a change, also if all are worse");
        RenvoiDesk x = Check.told("land a 0;land b 0;issue i;fact f b;rule a i f inner;law b i 1;deed d i;");
        Check.due("where(0)", x.where(0), 3);
        best(x, 0, 0, 0, 1);
    }

    private static void fewestTwoAtMost() {
        Bounds.sentence("Terms 3", "how few FACTS (2 at most)", "0, 1, 2; three are too many");
        RenvoiDesk x = Check.told(FIVE);
        Check.due("five would do", x.fewest(0), -2);
        x.tie(0, 5);
        x.tie(1, 5);
        Check.due("three would do", x.fewest(0), -2);
        x.tie(2, 5);
        Check.due("two", x.fewest(0), 2);
        x.tie(3, 5);
        Check.due("one, the last", x.fewest(0), 1);
        x.tie(4, 5);
        Check.due("none", x.fewest(0), 0);
        x.tie(0, 0);
        Check.due("one, the first", x.fewest(0), 1);
        x.tie(4, 0);
        Check.due("two, the first and the last", x.fewest(0), 2);
        x.tie(2, 2);
        Check.due("three once more", x.fewest(0), -2);
    }

    private static void fewestOther() {
        Bounds.sentence("Terms 3", "have to tell other LANDS so that it STANDS in all LANDS", "two FACTS may tell unlike LANDS");
        RenvoiDesk x = Check.told("land a 0;land b 0;land c 0;land d 0;issue i;issue j;fact f c;fact g d;"
                + "rule a i f inner;rule b i f inner;rule c i f inner;rule d i f inner;"
                + "rule a j g inner;rule b j g inner;rule c j g inner;rule d j g inner;law a i 1;law b j 1;deed k i j;deed l i;");
        Check.due("a for f, b for g", x.fewest(0), 2);
        Check.due("a for f", x.fewest(1), 1);
        x.tie(0, 0);
        Check.due("b for g", x.fewest(0), 1);
        x.say(1, 1, 0);
        Check.due("none answers on j", x.fewest(0), -2);
    }

    // ---- Promise 20

    private static void standsAnswers() {
        Bounds.sentence("Promise 20", "1 a DEED STANDS in a LAND, 0 not", "the first and the last of each");
        RenvoiDesk x = Check.told(Bounds.FULL);
        x.point(0, 0, -1, true);
        x.point(5, 5, -1, true);
        Check.due("stands(0, 0)", x.stands(0, 0), 1);
        Check.due("stands(0, 1)", x.stands(0, 1), 0);
        Check.due("stands(1, 5)", x.stands(1, 5), 1);
        Check.due("stands(4, 5)", x.stands(4, 5), 0);
        for (int issue = 0; issue < 6; issue++) {
            x.point(5, issue, -1, true);
            x.say(5, issue, 99);
        }
        Check.due("stands(4, 5)", x.stands(4, 5), 1);
    }

    private static void standsNoSuchDeed() {
        Bounds.sentence("Promise 20", "none such", "the DEED");
        RenvoiDesk full = Check.told(Bounds.FULL);
        RenvoiDesk small = Check.told(Bounds.SMALL);
        for (int deed : Bounds.outside(5)) {
            Check.due("stands(" + deed + ", 0) of five", full.stands(deed, 0), -1);
        }
        for (int deed : Bounds.outside(2)) {
            Check.due("stands(" + deed + ", 0) of two", small.stands(deed, 0), -1);
        }
        Check.due("stands(0, 0) of none", Check.told("land a 0;issue i;").stands(0, 0), -1);
    }

    private static void standsNoSuchLand() {
        Bounds.sentence("Promise 20", "none such", "the LAND");
        RenvoiDesk full = Check.told(Bounds.FULL);
        RenvoiDesk small = Check.told(Bounds.SMALL);
        for (int land : Bounds.outside(6)) {
            Check.due("stands(0, " + land + ") of six", full.stands(0, land), -1);
            Check.due("stands(4, " + land + ") of six", full.stands(4, land), -1);
        }
        for (int land : Bounds.outside(3)) {
            Check.due("stands(0, " + land + ") of three", small.stands(0, land), -1);
        }
        Check.due("stands(0, 0) of no lands", Check.told("issue i;deed d i;").stands(0, 0), -1);
    }

    // ---- Promise 21

    private static void whereNoneAndAll() {
        Bounds.sentence("Promise 21", "LANDS in which a DEED STANDS, as bits", "none to all");
        RenvoiDesk x = Check.told(FIVE);
        Check.due("where(1)", x.where(1), 0);
        Check.due("where(0)", x.where(0), 32);
        for (int fact = 0; fact < 5; fact++) {
            x.tie(fact, 5);
            Check.due("where(0)", x.where(0), 32 + (2 << fact) - 1);
        }
        Check.due("where(0) of no lands", Check.told("issue i;deed d i;").where(0), 0);
    }

    private static void whereNoneSuch() {
        Bounds.sentence("Promise 21", "none such");
        RenvoiDesk full = Check.told(Bounds.FULL);
        RenvoiDesk small = Check.told(Bounds.SMALL);
        for (int deed : Bounds.outside(5)) {
            Check.due("where(" + deed + ") of five", full.where(deed), -1);
        }
        for (int deed : Bounds.outside(2)) {
            Check.due("where(" + deed + ") of two", small.where(deed), -1);
        }
        Check.due("where(0) of none", Check.told("land a 0;issue i;").where(0), -1);
    }

    // ---- Promise 22

    private static void limpsNoneAndAll() {
        Bounds.sentence("Promise 22", "DEEDS that LIMP, as bits", "none to all five");
        Check.due("limps() of a new one", new RenvoiDesk().limps(), 0);
        Check.due("limps() of no lands", Check.told("issue i;deed d i;").limps(), 0);
        Check.due("limps() of no deeds", Check.told("land a 0;land b 0;issue i;law a i 1;").limps(), 0);
        RenvoiDesk x = Check.told("land a 0;land b 0;issue i;issue j;issue k;issue l;issue m;"
                + "deed o i;deed p j;deed q k;deed r l;deed s m;");
        for (int issue = 0; issue < 5; issue++) {
            x.say(0, issue, 1);
            Check.due("limps()", x.limps(), (2 << issue) - 1);
        }
        for (int issue = 0; issue < 5; issue++) {
            x.say(1, issue, 1);
            Check.due("limps()", x.limps(), 31 & -(2 << issue));
        }
    }

    // ---- Promise 23

    private static void bestOfWhat() {
        Bounds.sentence("Promise 23", "BEST CHANGE, what 0: the FACT, 1: the LAND, 2: in how many it STANDS then");
        RenvoiDesk x = Check.told(FIVE);
        best(x, 0, 0, 5, 2);
        best(x, 1, 0, 1, 0);
        best(Check.told("land a 0;land b 0;issue i;fact f b;deed d i;"), 0, 0, 0, 0);
    }

    private static void bestLeavesAllAlone() {
        Bounds.sentence("Promise 23", "BEST CHANGE", "it is not made");
        RenvoiDesk x = Check.told(FIVE);
        String before = Bounds.picture(x);
        best(x, 0, 0, 5, 2);
        Bounds.stays(x, before, 0, 0);
        Check.due("where(0)", x.where(0), 32);
    }

    private static void bestOthers() {
        Bounds.sentence("Promise 23", "others");
        RenvoiDesk x = Check.told(FIVE);
        for (int what : Bounds.outside(3)) {
            Check.due("best(0, " + what + ")", x.best(0, what), -1);
            Check.due("best(1, " + what + ")", x.best(1, what), -1);
        }
    }

    private static void bestNoneSuch() {
        Bounds.sentence("Promise 23", "none such");
        RenvoiDesk full = Check.told(Bounds.FULL);
        RenvoiDesk small = Check.told(Bounds.SMALL);
        for (int what = 0; what <= 2; what++) {
            for (int deed : Bounds.outside(5)) {
                Check.due("best(" + deed + ", " + what + ") of five", full.best(deed, what), -1);
            }
            for (int deed : Bounds.outside(2)) {
                Check.due("best(" + deed + ", " + what + ") of two", small.best(deed, what), -1);
            }
        }
        Check.due("best(0, 0) of none", Check.told("land a 0;land b 0;issue i;fact f a;").best(0, 0), -1);
    }

    private static void bestNoFacts() {
        Bounds.sentence("Promise 23", "no FACTS");
        for (int what = 0; what <= 2; what++) {
            Check.due("best(0, " + what + ") of no facts",
                    Check.told("land a 0;land b 0;issue i;law a i 1;deed d i;").best(0, what), -1);
            Check.due("best(0, " + what + ") of one fact",
                    Check.told("land a 0;land b 0;issue i;fact f b;law a i 1;deed d i;").best(0, what) >= 0, true);
        }
    }

    private static void bestFewerThanTwoLands() {
        Bounds.sentence("Promise 23", "fewer than two LANDS");
        for (int what = 0; what <= 2; what++) {
            Check.due("best(0, " + what + ") of no lands", Check.told("issue i;deed d i;").best(0, what), -1);
            Check.due("best(0, " + what + ") of one land",
                    Check.told("land a 0;issue i;fact f a;law a i 1;deed d i;").best(0, what), -1);
            Check.due("best(0, " + what + ") of two lands",
                    Check.told("land a 0;land b 0;issue i;fact f a;law a i 1;deed d i;").best(0, what) >= 0, true);
        }
    }

    // ---- Promise 24

    private static void fewest0() {
        Bounds.sentence("Promise 24", "0: it STANDS in all");
        RenvoiDesk x = Check.told("land a 0;land b 0;issue i;fact f a;law a i 1;law b i 1;deed d i;");
        Check.due("fewest(0)", x.fewest(0), 0);
        x.say(1, 0, 0);
        Check.due("fewest(0), in one not", x.fewest(0), -2);
        Check.due("fewest(0) of no facts", Check.told("land a 0;issue i;law a i 1;deed d i;").fewest(0), 0);
        Check.due("fewest(0) of no lands", Check.told("issue i;deed d i;").fewest(0), 0);
    }

    private static void fewestNotByTwo() {
        Bounds.sentence("Promise 24", "not by two");
        Check.due("fewest(0) of no facts", Check.told("land a 0;land b 0;issue i;law a i 1;deed d i;").fewest(0), -2);
        Check.due("fewest(0) of one land", Check.told("land a 0;issue i;fact f a;deed d i;").fewest(0), -2);
        RenvoiDesk x = Check.told(FIVE);
        Check.due("fewest(0)", x.fewest(0), -2);
        Check.due("fewest(1): no fact helps", x.fewest(1), -2);
    }

    private static void fewestNoneSuch() {
        Bounds.sentence("Promise 24", "none such");
        RenvoiDesk full = Check.told(Bounds.FULL);
        RenvoiDesk small = Check.told(Bounds.SMALL);
        for (int deed : Bounds.outside(5)) {
            Check.due("fewest(" + deed + ") of five", full.fewest(deed), -1);
        }
        for (int deed : Bounds.outside(2)) {
            Check.due("fewest(" + deed + ") of two", small.fewest(deed), -1);
        }
        Check.due("fewest(0) of none", Check.told("land a 0;issue i;").fewest(0), -1);
    }

    private static void fewestLeavesAllAlone() {
        Bounds.sentence("Promise 24", "FEWEST", "no FACT is told anew");
        RenvoiDesk x = Check.told(FIVE);
        x.tie(0, 5);
        x.tie(1, 5);
        x.tie(2, 5);
        String before = Bounds.picture(x);
        Check.due("fewest(0)", x.fewest(0), 2);
        Check.due("fewest(0) once more", x.fewest(0), 2);
        Bounds.stays(x, before, 3, 0);
    }
}
