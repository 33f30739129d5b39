/** Promises 20 to 24: stands, where, limps, best, fewest. */
public final class DeedsTest {
    /** On i: a and b point by facts of their own, c answers; on j: all answer but c. */
    private static final String TEXT = "land a 0;land b 0;land c 0;issue i;issue j;fact f b;fact g a;fact h a;"
            + "rule a i f whole;rule b i g whole;law c i 3;law a j 1;law b j 2;"
            + "deed d i;deed e j;deed k i j;";

    public static void main(String[] args) {
        standing();
        limping();
        best();
        bestOfLikes();
        fewest();
        noLands();
        Check.finish();
    }

    private static void standing() {
        RenvoiDesk x = Check.told(TEXT);
        Check.due("stands(0, 0)", x.stands(0, 0), 0);
        Check.due("stands(0, 2)", x.stands(0, 2), 1);
        Check.due("where(0)", x.where(0), 4);
        Check.due("where(1)", x.where(1), 3);
        Check.due("where(2): all of its issues", x.where(2), 0);
        Check.due("stands(1, 1)", x.stands(1, 1), 1);
        Check.due("stands(1, 2)", x.stands(1, 2), 0);
        Check.due("stands(3, 0)", x.stands(3, 0), -1);
        Check.due("stands(-1, 0)", x.stands(-1, 0), -1);
        Check.due("stands(0, 3)", x.stands(0, 3), -1);
        Check.due("stands(0, -1)", x.stands(0, -1), -1);
        Check.due("where(3)", x.where(3), -1);
        Check.due("where(-1)", x.where(-1), -1);
        x.tie(0, 2);
        Check.due("where(0) behind tie", x.where(0), 5);
        x.think(1, 1);
        Check.due("where(0) by the own theory of b", x.where(0), 7);
    }

    private static void limping() {
        RenvoiDesk x = Check.told(TEXT);
        Check.due("limps()", x.limps(), 3);
        x.say(2, 1, 5);
        Check.due("limps(): e stands in all", x.limps(), 5);
        x.say(2, 0, 0);
        Check.due("limps(): d, k stand in none", x.limps(), 0);
    }

    private static void best() {
        RenvoiDesk x = Check.told(TEXT);
        Check.due("best(0, 0)", x.best(0, 0), 0);
        Check.due("best(0, 1)", x.best(0, 1), 2);
        Check.due("best(0, 2)", x.best(0, 2), 2);
        Check.due("nothing is told anew", x.fact(0), 1);
        Check.due("nothing can be undone", x.count(5), 0);
        Check.due("best(1, 0): changes nothing, the first", x.best(1, 0), 0);
        Check.due("best(1, 1)", x.best(1, 1), 0);
        Check.due("best(1, 2)", x.best(1, 2), 2);
        Check.due("best(0, 3)", x.best(0, 3), -1);
        Check.due("best(0, -1)", x.best(0, -1), -1);
        Check.due("best(3, 0)", x.best(3, 0), -1);
        Check.due("best(-1, 0)", x.best(-1, 0), -1);
        RenvoiDesk y = Check.told("land a 0;land b 0;issue i;deed d i;law a i 1;law b i 1;");
        for (int what = 0; what <= 2; what++) {
            Check.due("best without facts", y.best(0, what), -1);
        }
        y = Check.told("land a 0;issue i;fact f a;deed d i;law a i 1;");
        for (int what = 0; what <= 2; what++) {
            Check.due("best with one land", y.best(0, what), -1);
        }
    }

    private static void bestOfLikes() {
        RenvoiDesk x = Check.told("land a 0;land b 0;issue i;fact f a;rule a i f inner;rule b i f inner;law a i 1;deed d i;");
        Check.due("a change that makes it worse: the fact", x.best(0, 0), 0);
        Check.due("a change that makes it worse: the land", x.best(0, 1), 1);
        Check.due("a change that makes it worse: none", x.best(0, 2), 0);
        x = Check.told("land a 0;land b 0;land c 0;issue i;fact f a;fact g a;rule a i g inner;"
                + "law b i 1;law c i 2;deed d i;");
        Check.due("the later fact is better", x.best(0, 0), 1);
        Check.due("the first of its lands", x.best(0, 1), 1);
        Check.due("stands in all then", x.best(0, 2), 3);
    }

    private static void fewest() {
        RenvoiDesk x = Check.told(TEXT);
        Check.due("two: f and g", x.fewest(0), 2);
        Check.due("not by facts", x.fewest(1), -2);
        Check.due("nothing is told anew", x.fact(0) * 10 + x.fact(1), 10);
        x.tie(0, 2);
        Check.due("one: g", x.fewest(0), 1);
        x.tie(1, 2);
        Check.due("none", x.fewest(0), 0);
        x.tie(0, 1);
        Check.due("one: f", x.fewest(0), 1);
        Check.due("fewest(3)", x.fewest(3), -1);
        Check.due("fewest(-1)", x.fewest(-1), -1);
        RenvoiDesk y = Check.told("land a 0;land b 0;land c 0;land d 0;issue i;fact f a;fact g b;fact h c;"
                + "rule a i f inner;rule b i g inner;rule c i h inner;law d i 1;deed k i;");
        Check.due("three would do", y.fewest(0), -2);
        y.tie(1, 3);
        Check.due("the first and the last", y.fewest(0), 2);
        y.tie(1, 1);
        y.tie(0, 3);
        Check.due("the two last ones", y.fewest(0), 2);
    }

    private static void noLands() {
        RenvoiDesk x = Check.told("issue i;deed d i;");
        Check.due("where(0) without lands", x.where(0), 0);
        Check.due("limps() without lands", x.limps(), 0);
        Check.due("stands(0, 0) without lands", x.stands(0, 0), -1);
        Check.due("fewest(0) without lands: it stands in all", x.fewest(0), 0);
        Check.due("best(0, 2) without lands", x.best(0, 2), -1);
        Check.due("limps() of a new one", new RenvoiDesk().limps(), 0);
    }
}
