import java.io.IOException;

/** Boundary cases of Terms 2 (ROADS, LOOPS) and of promises 10 to 13: road, ends, trapped, loop. */
public final class BoundsRoadsTest {
    private static final String LANDS = "land a 0;land b 0;land c 0;land d 0;land e 0;land f 0;";
    /** Facts tell b to f, the last five; a points to b, and so on: the longest road that there is. */
    private static final String CHAIN = LANDS + "issue i;issue j;fact o b;fact p c;fact q d;fact r e;fact s f;"
            + "rule a i o whole;rule b i p whole;rule c i q whole;rule d i r whole;rule e i s whole;";
    /** On i two loops, of a, e and of b, c; f goes into the first, d stays; on j none. */
    private static final String TWO_LOOPS = LANDS + "issue i;issue j;fact o a;fact p b;fact q c;fact r d;fact s e;"
            + "rule a i s whole;rule e i o whole;rule b i q whole;rule c i p whole;rule f i s whole;rule a j p inner;";

    public static void main(String[] args) throws IOException {
        Bounds.open(args);
        beginsThere();
        byTheLandItHasComeTo();
        withoutRule();
        asTheFactTells();
        sameOne();
        inner();
        innerWhereItHasBeen();
        wholeGoesOn();
        inALoop();
        doesNotComeAgain();
        closesAt();
        loopFromThatOneOn();
        byTheHead();
        roadSteps();
        roadHowMany();
        roadNoSuchLand();
        roadNoSuchIssue();
        roadOthers();
        endsHow();
        endsWhere();
        endsOthers();
        endsNoSuchLand();
        endsNoSuchIssue();
        trappedNoneAndAll();
        trappedNoneSuch();
        loopsOnAnIssue();
        loopAsBits();
        loopEachOnce();
        loopLeastFirst();
        loopHowMany();
        loopNoneSuch();
        loopOthers();
        Check.finish();
    }

    private static void path(RenvoiDesk x, int land, int issue, int... lands) {
        Check.due("length of road(" + land + ", " + issue + ")", x.road(land, issue, -1), lands.length);
        for (int k = 0; k < lands.length; k++) {
            Check.due("road(" + land + ", " + issue + ", " + k + ")", x.road(land, issue, k), lands[k]);
        }
        Check.due("road(" + land + ", " + issue + ") beyond", x.road(land, issue, lands.length), -2);
    }

    private static void end(RenvoiDesk x, int land, int issue, int how, int where) {
        Check.due("ends(" + land + ", " + issue + ", 0)", x.ends(land, issue, 0), how);
        Check.due("ends(" + land + ", " + issue + ", 1)", x.ends(land, issue, 1), where);
    }

    // ---- Terms 2

    private static void beginsThere() {
        Bounds.sentence("Terms 2", "ROAD of a LAND on an ISSUE: it begins there");
        RenvoiDesk x = Check.told(TWO_LOOPS);
        for (int land = 0; land < 6; land++) {
            Check.due("road(" + land + ", 0, 0)", x.road(land, 0, 0), land);
            Check.due("road(" + land + ", 1, 0)", x.road(land, 1, 0), land);
        }
    }

    private static void byTheLandItHasComeTo() {
        Bounds.sentence("Terms 2", "Where it has come to a LAND:", "by its RULE there, not by that of the first one");
        RenvoiDesk x = Check.told(LANDS + "issue i;fact o b;fact p c;fact q d;rule a i o whole;rule d i p whole;");
        path(x, 0, 0, 0, 1);
        end(x, 0, 0, 0, 1);
        x.point(1, 0, 0, true);
        path(x, 0, 0, 0, 1);
        end(x, 0, 0, 1, 1);
        x.point(1, 0, 2, false);
        path(x, 0, 0, 0, 1, 3);
        end(x, 0, 0, 2, 3);
        x.point(1, 0, 2, true);
        path(x, 0, 0, 0, 1, 3, 2);
        end(x, 0, 0, 0, 2);
        x.point(2, 0, 0, true);
        path(x, 0, 0, 0, 1, 3, 2);
        end(x, 0, 0, 3, 1);
        x.point(0, 0, 0, false);
        path(x, 0, 0, 0, 1);
        path(x, 1, 0, 1, 3, 2);
    }

    private static void asTheFactTells() {
        Bounds.sentence("Terms 2", "The RULE's FACT tells a LAND:", "all RULES by it go there, each LAND in its turn");
        RenvoiDesk x = Check.told(LANDS + "issue i;fact o a;fact p c;rule a i o whole;rule b i o whole;rule c i o whole;"
                + "rule d i o whole;rule e i o whole;rule f i o inner;");
        for (int told = 0; told < 6; told++) {
            x.tie(0, told);
            for (int land = 0; land < 6; land++) {
                if (land == told) {
                    path(x, land, 0, land);
                    end(x, land, 0, 1, land);
                } else {
                    path(x, land, 0, land, told);
                    end(x, land, 0, land == 5 ? 2 : 1, told);
                }
            }
        }
        x.tie(1, 4);
        path(x, 0, 0, 0, 5);
    }

    private static void withoutRule() {
        Bounds.sentence("Terms 2", "without a RULE it ENDS there (0)");
        RenvoiDesk x = Check.told(CHAIN);
        path(x, 5, 0, 5);
        end(x, 5, 0, 0, 5);
        end(x, 0, 0, 0, 5);
        x.point(0, 0, -1, true);
        path(x, 0, 0, 0);
        end(x, 0, 0, 0, 0);
        path(x, 0, 1, 0);
        end(x, 0, 1, 0, 0);
    }

    private static void sameOne() {
        Bounds.sentence("Terms 2", "is it the same one, it ENDS there (1)", "whole or inner");
        RenvoiDesk x = Check.told(CHAIN);
        x.point(5, 0, 4, true);
        path(x, 5, 0, 5);
        end(x, 5, 0, 1, 5);
        end(x, 0, 0, 1, 5);
        x.point(5, 0, 4, false);
        path(x, 5, 0, 5);
        end(x, 5, 0, 1, 5);
        path(x, 0, 0, 0, 1, 2, 3, 4, 5);
        end(x, 0, 0, 1, 5);
        x.tie(0, 0);
        path(x, 0, 0, 0);
        end(x, 0, 0, 1, 0);
        Check.due("trapped(0): it is no loop", x.trapped(0), 0);
    }

    private static void inner() {
        Bounds.sentence("Terms 2", "is the RULE's WAY inner, it comes to that one", "and does not go on");
        RenvoiDesk x = Check.told(CHAIN);
        x.point(0, 0, 0, false);
        path(x, 0, 0, 0, 1);
        end(x, 0, 0, 2, 1);
        x.point(4, 0, 4, false);
        path(x, 1, 0, 1, 2, 3, 4, 5);
        end(x, 1, 0, 2, 5);
    }

    private static void innerWhereItHasBeen() {
        Bounds.sentence("Terms 2", "(also where it has been already) and ENDS there (2)");
        RenvoiDesk x = Check.told(CHAIN);
        x.point(5, 0, 0, false);
        path(x, 0, 0, 0, 1, 2, 3, 4, 5, 1);
        end(x, 0, 0, 2, 1);
        path(x, 1, 0, 1, 2, 3, 4, 5, 1);
        end(x, 1, 0, 2, 1);
        Check.due("trapped(0): it is no loop", x.trapped(0), 0);
        Check.due("loop(0, -1)", x.loop(0, -1), 0);
        x.point(5, 0, 3, false);
        path(x, 0, 0, 0, 1, 2, 3, 4, 5, 4);
        end(x, 0, 0, 2, 4);
        RenvoiDesk y = Check.told("land a 0;land b 0;issue i;fact f a;fact g b;rule a i g whole;rule b i f inner;");
        path(y, 0, 0, 0, 1, 0);
        end(y, 0, 0, 2, 0);
    }

    private static void wholeGoesOn() {
        Bounds.sentence("Terms 2", "else (whole) it comes to that one and goes on", "through all six LANDS");
        RenvoiDesk x = Check.told(CHAIN);
        path(x, 0, 0, 0, 1, 2, 3, 4, 5);
        path(x, 1, 0, 1, 2, 3, 4, 5);
        path(x, 4, 0, 4, 5);
    }

    private static void inALoop() {
        Bounds.sentence("Terms 2", "it ENDS in a LOOP (3)");
        RenvoiDesk x = Check.told(CHAIN);
        x.point(5, 0, 0, true);
        for (int land = 0; land < 6; land++) {
            Check.due("ends(" + land + ", 0, 0)", x.ends(land, 0, 0), 3);
        }
        RenvoiDesk y = Check.told("land a 0;land b 0;issue i;fact f a;fact g b;rule a i g whole;rule b i f whole;");
        end(y, 0, 0, 3, 0);
        end(y, 1, 0, 3, 1);
    }

    private static void doesNotComeAgain() {
        Bounds.sentence("Terms 2", "has it been there already, it does not come there again");
        RenvoiDesk x = Check.told(CHAIN);
        x.point(5, 0, 0, true);
        path(x, 0, 0, 0, 1, 2, 3, 4, 5);
        path(x, 3, 0, 3, 4, 5, 1, 2);
        x.point(5, 0, 3, true);
        path(x, 0, 0, 0, 1, 2, 3, 4, 5);
        path(x, 5, 0, 5, 4);
    }

    private static void closesAt() {
        Bounds.sentence("Terms 2", "which CLOSES at that one");
        RenvoiDesk x = Check.told(CHAIN);
        x.point(5, 0, 0, true);
        Check.due("from outside, where it goes in", x.ends(0, 0, 1), 1);
        for (int land = 1; land < 6; land++) {
            Check.due("from within, where it begins", x.ends(land, 0, 1), land);
        }
        x.point(5, 0, 3, true);
        Check.due("at the last but one", x.ends(0, 0, 1), 4);
        Check.due("at the last", x.ends(5, 0, 1), 5);
    }

    private static void loopFromThatOneOn() {
        Bounds.sentence("Terms 2", "the LOOP is those LANDS from that one on", "not those ahead of it");
        RenvoiDesk x = Check.told(CHAIN);
        x.point(5, 0, 0, true);
        Check.due("loop(0, 0): all but the first", x.loop(0, 0), 62);
        x.point(5, 0, 3, true);
        Check.due("loop(0, 0): the two last", x.loop(0, 0), 48);
        Check.due("trapped(0): all", x.trapped(0), 63);
    }

    private static void byTheHead() {
        Bounds.sentence("Terms 2", "The RULE of a LAND on an ISSUE: that which is told of it and the HEAD", "roads go by it");
        RenvoiDesk x = Check.told(TWO_LOOPS);
        x.join(1, 0);
        path(x, 0, 1, 0, 4);
        Check.due("trapped(1)", x.trapped(1), 55);
        Check.due("loop(1, -1)", x.loop(1, -1), 2);
        x.cut(0);
        x.join(0, 1);
        path(x, 0, 0, 0, 1);
        Check.due("trapped(0)", x.trapped(0), 0);
    }

    // ---- Promise 10

    private static void roadSteps() {
        Bounds.sentence("Promise 10", "The k-th LAND (from 0) of a ROAD", "the first, the last, one beyond");
        RenvoiDesk x = Check.told(CHAIN);
        x.point(5, 0, 2, false);
        int[] due = {0, 1, 2, 3, 4, 5, 3, -2, -2};
        for (int k = 0; k < due.length; k++) {
            Check.due("road(0, 0, " + k + ")", x.road(0, 0, k), due[k]);
        }
        Check.due("road(0, 1, 0), a road of one", x.road(0, 1, 0), 0);
        Check.due("road(0, 1, 1), a road of one", x.road(0, 1, 1), -2);
    }

    private static void roadHowMany() {
        Bounds.sentence("Promise 10", "how many (k NONE)", "one to seven");
        RenvoiDesk x = Check.told(CHAIN);
        for (int land = 0; land < 6; land++) {
            Check.due("road(" + land + ", 0, -1)", x.road(land, 0, -1), 6 - land);
        }
        x.point(5, 0, 0, false);
        Check.due("road(0, 0, -1) with an inner one back", x.road(0, 0, -1), 7);
    }

    private static void roadNoSuchLand() {
        Bounds.sentence("Promise 10", "none such", "the LAND");
        RenvoiDesk full = Check.told(CHAIN);
        RenvoiDesk small = Check.told(Bounds.SMALL);
        for (int k = -1; k <= 1; k++) {
            for (int land : Bounds.outside(6)) {
                Check.due("road(" + land + ", 0, " + k + ") of six", full.road(land, 0, k), -2);
            }
            for (int land : Bounds.outside(3)) {
                Check.due("road(" + land + ", 0, " + k + ") of three", small.road(land, 0, k), -2);
            }
        }
        Check.due("road(0, 0, -1) of no lands", Check.told("issue i;").road(0, 0, -1), -2);
    }

    private static void roadNoSuchIssue() {
        Bounds.sentence("Promise 10", "none such", "the ISSUE");
        RenvoiDesk full = Check.told(Bounds.FULL);
        RenvoiDesk small = Check.told(Bounds.SMALL);
        for (int k = -1; k <= 1; k++) {
            for (int issue : Bounds.outside(6)) {
                Check.due("road(0, " + issue + ", " + k + ") of six", full.road(0, issue, k), -2);
            }
            for (int issue : Bounds.outside(2)) {
                Check.due("road(0, " + issue + ", " + k + ") of two", small.road(0, issue, k), -2);
            }
        }
        Check.due("road(0, 0, -1) of no issues", Check.told("land a 0;").road(0, 0, -1), -2);
    }

    private static void roadOthers() {
        Bounds.sentence("Promise 10", "others", "k below NONE, k beyond the ROAD");
        RenvoiDesk x = Check.told(CHAIN);
        for (int k : Bounds.outsideButNone(6)) {
            Check.due("road(0, 0, " + k + ")", x.road(0, 0, k), -2);
        }
        for (int k : Bounds.outsideButNone(1)) {
            Check.due("road(5, 0, " + k + ")", x.road(5, 0, k), -2);
        }
    }

    // ---- Promise 11

    private static void endsHow() {
        Bounds.sentence("Promise 11", "Of a ROAD, what 0: how it ENDS (0 to 3)");
        RenvoiDesk x = Check.told(LANDS + "issue i;fact o a;fact p b;fact q c;rule b i p whole;rule c i q inner;"
                + "rule d i o inner;rule e i p whole;rule f i o whole;");
        int[] due = {0, 1, 1, 2, 1, 0};
        for (int land = 0; land < 6; land++) {
            Check.due("ends(" + land + ", 0, 0)", x.ends(land, 0, 0), due[land]);
        }
        x.tie(0, 1);
        x.point(1, 0, 2, true);
        x.point(2, 0, 1, true);
        Check.due("ends(5, 0, 0)", x.ends(5, 0, 0), 3);
    }

    private static void endsWhere() {
        Bounds.sentence("Promise 11", "1: at which LAND it ENDS, or the LOOP CLOSES");
        RenvoiDesk x = Check.told(CHAIN);
        Check.due("ends(0, 0, 1), the last land", x.ends(0, 0, 1), 5);
        Check.due("ends(0, 1, 1), the first land", x.ends(0, 1, 1), 0);
        x.point(5, 0, 2, true);
        Check.due("ends(0, 0, 1), where the loop closes", x.ends(0, 0, 1), 3);
        x.point(5, 0, 1, false);
        Check.due("ends(0, 0, 1), by inner", x.ends(0, 0, 1), 2);
    }

    private static void endsOthers() {
        Bounds.sentence("Promise 11", "others");
        RenvoiDesk x = Check.told(CHAIN);
        for (int what : Bounds.outside(2)) {
            Check.due("ends(0, 0, " + what + ")", x.ends(0, 0, what), -1);
            Check.due("ends(5, 1, " + what + ")", x.ends(5, 1, what), -1);
        }
    }

    private static void endsNoSuchLand() {
        Bounds.sentence("Promise 11", "none such", "the LAND");
        RenvoiDesk full = Check.told(CHAIN);
        RenvoiDesk small = Check.told(Bounds.SMALL);
        for (int what = 0; what <= 1; what++) {
            for (int land : Bounds.outside(6)) {
                Check.due("ends(" + land + ", 0, " + what + ") of six", full.ends(land, 0, what), -1);
            }
            for (int land : Bounds.outside(3)) {
                Check.due("ends(" + land + ", 0, " + what + ") of three", small.ends(land, 0, what), -1);
            }
        }
        Check.due("ends(0, 0, 0) of no lands", Check.told("issue i;").ends(0, 0, 0), -1);
    }

    private static void endsNoSuchIssue() {
        Bounds.sentence("Promise 11", "none such", "the ISSUE");
        RenvoiDesk full = Check.told(Bounds.FULL);
        RenvoiDesk small = Check.told(Bounds.SMALL);
        for (int what = 0; what <= 1; what++) {
            for (int issue : Bounds.outside(6)) {
                Check.due("ends(0, " + issue + ", " + what + ") of six", full.ends(0, issue, what), -1);
            }
            for (int issue : Bounds.outside(2)) {
                Check.due("ends(0, " + issue + ", " + what + ") of two", small.ends(0, issue, what), -1);
            }
        }
        Check.due("ends(0, 0, 0) of no issues", Check.told("land a 0;").ends(0, 0, 0), -1);
    }

    // ---- Promise 12

    private static void trappedNoneAndAll() {
        Bounds.sentence("Promise 12", "LANDS whose ROADS on an ISSUE END in a LOOP, as bits", "none, some, all");
        RenvoiDesk x = Check.told(CHAIN);
        Check.due("trapped(0)", x.trapped(0), 0);
        x.point(5, 0, 0, true);
        Check.due("trapped(0)", x.trapped(0), 63);
        x.point(0, 0, 0, false);
        Check.due("one goes in by inner: that is no loop", x.trapped(0), 62);
        Check.due("trapped(0) of two loops", Check.told(TWO_LOOPS).trapped(0), 55);
        Check.due("trapped(1)", x.trapped(1), 0);
        Check.due("trapped(0) of no lands", Check.told("issue i;").trapped(0), 0);
    }

    private static void trappedNoneSuch() {
        Bounds.sentence("Promise 12", "none such");
        RenvoiDesk full = Check.told(Bounds.FULL);
        RenvoiDesk small = Check.told(Bounds.SMALL);
        for (int issue : Bounds.outside(6)) {
            Check.due("trapped(" + issue + ") of six", full.trapped(issue), -1);
        }
        for (int issue : Bounds.outside(2)) {
            Check.due("trapped(" + issue + ") of two", small.trapped(issue), -1);
        }
        Check.due("trapped(0) of no issues", Check.told("land a 0;").trapped(0), -1);
    }

    // ---- Promise 13

    private static void loopsOnAnIssue() {
        Bounds.sentence("Promise 13", "The k-th of the LOOPS on an ISSUE (from 0", "of each ISSUE for itself, by its HEAD");
        RenvoiDesk x = Check.told(LANDS + "issue i;issue j;issue k;fact o a;fact p b;fact q c;fact r d;fact s e;"
                + "rule a i p whole;rule b i o whole;rule c i r whole;rule d i q whole;"
                + "rule a j q whole;rule c j s whole;rule e j o whole;rule b j r whole;rule d j p whole;");
        int[][] due = {{3, 12}, {10, 21}};
        for (int issue = 0; issue < 2; issue++) {
            for (int k = 0; k < 2; k++) {
                Check.due("loop(" + issue + ", " + k + ")", x.loop(issue, k), due[issue][k]);
            }
        }
        Check.due("loop(2, -1)", x.loop(2, -1), 0);
        x.join(0, 1);
        Check.due("loop(0, 0) by the head", x.loop(0, 0), 10);
        Check.due("loop(0, 1) by the head", x.loop(0, 1), 21);
    }

    private static void loopAsBits() {
        Bounds.sentence("Promise 13", "the least as bits first), as bits", "each two, and one more each time up to five");
        for (int one = 0; one < 5; one++) {
            for (int two = 0; two < one; two++) {
                RenvoiDesk x = Check.told(LANDS + "issue i;fact o a;fact p b;fact q c;fact r d;fact s e;");
                x.point(one, 0, two, true);
                x.point(two, 0, one, true);
                Check.due("loop of " + one + " and " + two, x.loop(0, 0), 1 << one | 1 << two);
            }
        }
        RenvoiDesk x = Check.told(CHAIN);
        for (int last = 2; last <= 5; last++) {
            x.point(last, 0, 0, true);
            Check.due("loop of b to " + last, x.loop(0, 0), (2 << last) - 2);
            x.point(last, 0, last, true);
        }
    }

    private static void loopEachOnce() {
        Bounds.sentence("Promise 13", "each set of LANDS once");
        RenvoiDesk x = Check.told(CHAIN);
        x.point(5, 0, 0, true);
        Check.due("six roads, one loop", x.loop(0, -1), 1);
        Check.due("loop(0, 0)", x.loop(0, 0), 62);
        Check.due("loop(0, 1)", x.loop(0, 1), -2);
        RenvoiDesk y = Check.told(TWO_LOOPS);
        Check.due("five roads, two loops", y.loop(0, -1), 2);
    }

    private static void loopLeastFirst() {
        Bounds.sentence("Promise 13", "the least as bits first", "not that of the first LAND");
        RenvoiDesk x = Check.told(TWO_LOOPS);
        Check.due("loop(0, 0): b and c", x.loop(0, 0), 6);
        Check.due("loop(0, 1): a and e", x.loop(0, 1), 17);
        Check.due("loop(0, 2)", x.loop(0, 2), -2);
        RenvoiDesk y = Check.told(LANDS + "issue i;fact o a;fact p b;fact q c;fact r d;fact s e;"
                + "rule a i p whole;rule b i o whole;rule c i r whole;rule d i q whole;rule e i s whole;");
        Check.due("loop(0, 0): a and b", y.loop(0, 0), 3);
        Check.due("loop(0, 1): c and d", y.loop(0, 1), 12);
        Check.due("loop(0, 2)", y.loop(0, 2), -2);
    }

    private static void loopHowMany() {
        Bounds.sentence("Promise 13", "how many (k NONE)", "none, one, two");
        Check.due("two", Check.told(TWO_LOOPS).loop(0, -1), 2);
        Check.due("none", Check.told(TWO_LOOPS).loop(1, -1), 0);
        Check.due("none of no lands", Check.told("issue i;").loop(0, -1), 0);
        RenvoiDesk x = Check.told(TWO_LOOPS);
        x.point(1, 0, 2, false);
        Check.due("one", x.loop(0, -1), 1);
        x.point(0, 0, 0, true);
        Check.due("one that points to itself is none", x.loop(0, -1), 0);
    }

    private static void loopNoneSuch() {
        Bounds.sentence("Promise 13", "none such", "the ISSUE");
        RenvoiDesk full = Check.told(Bounds.FULL);
        RenvoiDesk small = Check.told(TWO_LOOPS);
        for (int k = -1; k <= 1; k++) {
            for (int issue : Bounds.outside(6)) {
                Check.due("loop(" + issue + ", " + k + ") of six", full.loop(issue, k), -2);
            }
            for (int issue : Bounds.outside(2)) {
                Check.due("loop(" + issue + ", " + k + ") of two", small.loop(issue, k), -2);
            }
        }
        Check.due("loop(0, -1) of no issues", Check.told("land a 0;").loop(0, -1), -2);
    }

    private static void loopOthers() {
        Bounds.sentence("Promise 13", "others", "k below NONE, k beyond the LOOPS");
        RenvoiDesk x = Check.told(TWO_LOOPS);
        for (int k : Bounds.outsideButNone(2)) {
            Check.due("loop(0, " + k + ")", x.loop(0, k), -2);
        }
        for (int k : Bounds.outsideButNone(0)) {
            Check.due("loop(1, " + k + ") of none", x.loop(1, k), -2);
        }
    }
}
