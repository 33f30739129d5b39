/** Promises 10 to 13: road, ends, trapped, loop. */
public final class RoadsTest {
    /** Facts tell b, c, d, a; on i: a, b, c, d in a ring; e goes in; f stays. */
    private static final String RING = "land a 0;land b 0;land c 0;land d 0;land e 0;land f 0;issue i;issue j;"
            + "fact tb b;fact tc c;fact td d;fact ta a;fact te e;"
            + "rule a i tb whole;rule b i tc whole;rule c i td whole;rule d i ta whole;rule e i tc whole;"
            + "rule a j tb whole;rule b j ta whole;rule c j td whole;rule d j tc whole;rule f j te whole;rule e j te whole;";

    public static void main(String[] args) {
        roads();
        endsOfAllKinds();
        innerBack();
        wrongOnes();
        loops();
        noLands();
        heads();
        Check.finish();
    }

    private static void path(RenvoiDesk x, int land, int issue, int... lands) {
        Check.due("length of road(" + land + ", " + issue + ")", x.road(land, issue, -1), lands.length);
        for (int k = 0; k < lands.length; k++) {
            Check.due("road(" + land + ", " + issue + ", " + k + ")", x.road(land, issue, k), lands[k]);
        }
        Check.due("road(" + land + ", " + issue + ") beyond", x.road(land, issue, lands.length), -2);
    }

    private static void end(RenvoiDesk x, int land, int issue, int how, int where) {
        Check.due("ends(" + land + ", " + issue + ", 0)", x.ends(land, issue, 0), how);
        Check.due("ends(" + land + ", " + issue + ", 1)", x.ends(land, issue, 1), where);
    }

    private static void roads() {
        RenvoiDesk x = Check.told(RING);
        path(x, 0, 0, 0, 1, 2, 3);
        end(x, 0, 0, 3, 0);
        path(x, 4, 0, 4, 2, 3, 0, 1);
        end(x, 4, 0, 3, 2);
        path(x, 5, 0, 5);
        end(x, 5, 0, 0, 5);
        path(x, 5, 1, 5, 4);
        end(x, 5, 1, 1, 4);
    }

    private static void endsOfAllKinds() {
        RenvoiDesk x = Check.told("land a 0;land b 0;land c 0;issue i;fact ta a;fact tb b;fact tc c;"
                + "rule a i tb whole;rule b i tc inner;");
        path(x, 0, 0, 0, 1, 2);
        end(x, 0, 0, 2, 2);
        path(x, 1, 0, 1, 2);
        end(x, 1, 0, 2, 2);
        x.point(1, 0, 2, true);
        end(x, 0, 0, 0, 2);
        x.point(2, 0, 2, true);
        end(x, 0, 0, 1, 2);
        x.point(2, 0, 2, false);
        end(x, 0, 0, 1, 2);
        path(x, 2, 0, 2);
        x.point(2, 0, 1, true);
        path(x, 0, 0, 0, 1, 2);
        end(x, 0, 0, 3, 1);
    }

    private static void innerBack() {
        RenvoiDesk x = Check.told(RING);
        x.point(3, 0, 3, false);
        path(x, 0, 0, 0, 1, 2, 3, 0);
        end(x, 0, 0, 2, 0);
        x.point(3, 0, 4, true);
        x.point(4, 0, 4, true);
        path(x, 0, 0, 0, 1, 2, 3, 4);
        end(x, 0, 0, 1, 4);
        RenvoiDesk y = Check.told("land a 0;land b 0;land c 0;land d 0;land e 0;land f 0;issue i;"
                + "fact tb b;fact tc c;fact td d;fact te e;fact tf f;rule a i tb whole;rule b i tc whole;"
                + "rule c i td whole;rule d i te whole;rule e i tf whole;rule f i tc inner;");
        path(y, 0, 0, 0, 1, 2, 3, 4, 5, 2);
        end(y, 0, 0, 2, 2);
        y.point(5, 0, 1, true);
        path(y, 0, 0, 0, 1, 2, 3, 4, 5);
        end(y, 0, 0, 3, 2);
    }

    private static void wrongOnes() {
        RenvoiDesk x = Check.told(RING);
        for (int bad : new int[] {-1, 6, 7, Integer.MAX_VALUE, Integer.MIN_VALUE}) {
            Check.due("road of land " + bad, x.road(bad, 0, -1), -2);
            Check.due("road of land " + bad, x.road(bad, 0, 0), -2);
            Check.due("road on issue " + bad, x.road(0, bad, -1), -2);
            Check.due("road on issue " + bad, x.road(0, bad, 0), -2);
            Check.due("ends of land " + bad, x.ends(bad, 0, 0), -1);
            Check.due("ends on issue " + bad, x.ends(0, bad, 0), -1);
            Check.due("trapped on issue " + bad, x.trapped(bad), -1);
            Check.due("loop on issue " + bad, x.loop(bad, -1), -2);
            Check.due("loop on issue " + bad, x.loop(bad, 0), -2);
        }
        Check.due("road(0, 0, -2)", x.road(0, 0, -2), -2);
        Check.due("road(0, 0, MAX)", x.road(0, 0, Integer.MAX_VALUE), -2);
        Check.due("ends(0, 0, 2)", x.ends(0, 0, 2), -1);
        Check.due("ends(0, 0, -1)", x.ends(0, 0, -1), -1);
        Check.due("loop(0, -2)", x.loop(0, -2), -2);
        Check.due("loop(0, MAX)", x.loop(0, Integer.MAX_VALUE), -2);
    }

    private static void loops() {
        RenvoiDesk x = Check.told(RING);
        Check.due("trapped(0)", x.trapped(0), 31);
        Check.due("loop(0, -1)", x.loop(0, -1), 1);
        Check.due("loop(0, 0)", x.loop(0, 0), 15);
        Check.due("loop(0, 1)", x.loop(0, 1), -2);
        Check.due("trapped(1)", x.trapped(1), 15);
        Check.due("loop(1, -1)", x.loop(1, -1), 2);
        Check.due("loop(1, 0)", x.loop(1, 0), 3);
        Check.due("loop(1, 1)", x.loop(1, 1), 12);
        Check.due("loop(1, 2)", x.loop(1, 2), -2);
        RenvoiDesk y = Check.told("land a 0;land b 0;land c 0;land d 0;land e 0;land f 0;issue i;"
                + "fact ta a;fact tb b;fact tc c;fact td d;fact te e;rule a i te whole;rule e i ta whole;"
                + "rule b i tc whole;rule c i tb whole;rule f i te whole;");
        Check.due("trapped of two loops", y.trapped(0), 55);
        Check.due("the least loop is not the one of the first land", y.loop(0, 0), 6);
        Check.due("the greater loop", y.loop(0, 1), 17);
        y = Check.told("land a 0;land b 0;land c 0;land d 0;land e 0;land f 0;issue i;"
                + "fact tb b;fact tc c;fact td d;fact te e;fact tf f;rule a i tb whole;rule b i tc whole;"
                + "rule c i td whole;rule d i te whole;rule e i tf whole;rule f i tb whole;");
        Check.due("a loop with the last land", y.loop(0, 0), 62);
        Check.due("trapped by it", y.trapped(0), 63);
    }

    private static void noLands() {
        RenvoiDesk x = Check.told("issue i;");
        Check.due("trapped without lands", x.trapped(0), 0);
        Check.due("loop without lands", x.loop(0, -1), 0);
        Check.due("loop without lands", x.loop(0, 0), -2);
        Check.due("road without lands", x.road(0, 0, -1), -2);
    }

    private static void heads() {
        RenvoiDesk x = Check.told(RING);
        x.join(0, 1);
        path(x, 0, 0, 0, 1);
        end(x, 0, 0, 3, 0);
        Check.due("loop(0, -1) by the head", x.loop(0, -1), 2);
        Check.due("trapped(0) by the head", x.trapped(0), 15);
    }
}
