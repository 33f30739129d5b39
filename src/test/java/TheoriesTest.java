/** Promises 14 to 19: comes, answer, unlike, most, shop, tally. */
public final class TheoriesTest {
    private static final String LANDS = "land a 2;land b 3;land c 0;land d 4;issue i;issue j;"
            + "fact ta a;fact tb b;fact tc c;fact td d;";

    public static void main(String[] args) {
        nearTheories();
        endTheories();
        askedInTurn();
        answers();
        unlike();
        mostAndShop();
        tally();
        wrongOnes();
        Check.finish();
    }

    private static void comes(RenvoiDesk x, int land, int... byTheory) {
        for (int theory = 0; theory < byTheory.length; theory++) {
            Check.due("comes(" + land + ", 0, " + theory + ")", x.comes(land, 0, theory), byTheory[theory]);
        }
    }

    private static void nearTheories() {
        RenvoiDesk x = Check.told(LANDS);
        comes(x, 0, 0, 0, 0, 0, 0);
        x.point(0, 0, 0, true);
        comes(x, 0, 0, 0, 0, 0, 0);
        x.point(0, 0, 0, false);
        comes(x, 0, 0, 0, 0, 0, 0);
        x.point(0, 0, 1, true);
        comes(x, 0, 1, 1, 1, 1, 1);
        x.point(1, 0, 1, true);
        comes(x, 0, 1, 1, 1, 1, 1);
        x.point(1, 0, 2, false);
        comes(x, 0, 1, 2, 2, 2, 2);
        x.point(0, 0, 1, false);
        comes(x, 0, 1, 1, 1, 1, 1);
        x.point(0, 0, 1, true);
        x.point(1, 0, 0, false);
        comes(x, 0, 1, 0, 0, 0, 0);
    }

    private static void endTheories() {
        RenvoiDesk x = Check.told(LANDS + "rule a i tb whole;rule b i tc whole;rule c i td whole;");
        comes(x, 0, 1, 2, 3, 2 + 1, 3);
        x.point(3, 0, 1, true);
        Check.due("the loop closes at b", x.comes(0, 0, 2), 1);
        Check.due("a loop: its own", x.comes(0, 0, 4), 0);
        Check.due("by the own theory, 2", x.comes(0, 0, -1), 1);
        Check.due("by the own theory, 4", x.comes(3, 0, -1), 3);
        Check.due("by the own theory, 0", x.comes(2, 0, -1), 3);
    }

    private static void askedInTurn() {
        RenvoiDesk x = Check.told("land a 3;land b 3;land c 3;land d 0;issue i;fact ta a;fact tb b;fact tc c;fact td d;"
                + "rule a i tb whole;rule b i tc whole;rule c i ta whole;rule d i ta whole;");
        Check.due("all ask on, back to the first one", x.comes(0, 0, 3), 0);
        Check.due("all ask on, back to the first one", x.comes(1, 0, 3), 1);
        Check.due("from outside, back to the second one", x.comes(3, 0, 3), 0);
        x.think(2, 0);
        Check.due("c by its own theory, 0, comes to a", x.comes(1, 0, 3), 0);
        x.point(2, 0, 3, true);
        x.think(2, 1);
        Check.due("c by its own theory, 1, comes to a by d", x.comes(1, 0, 3), 0);
        x.think(2, 2);
        Check.due("c by its own theory, 2, comes to c, where the loop closes for it", x.comes(0, 0, 3), 2);
        x.think(2, 4);
        Check.due("c by its own theory, 4, comes to itself", x.comes(0, 0, 3), 2);
        x.think(0, 0);
        Check.due("the first is asked by the theory told, not its own", x.comes(0, 0, 3), 2);
        Check.due("and by its own", x.comes(0, 0, -1), 1);
        x.think(2, 3);
        x.point(2, 0, 1, true);
        Check.due("back to one asked in its turn", x.comes(0, 0, 3), 1);
        x.point(2, 0, 2, true);
        Check.due("one asked that points to itself", x.comes(0, 0, 3), 2);
        x.point(2, 0, 3, false);
        Check.due("one asked whose way is inner", x.comes(0, 0, 3), 3);
        x.point(2, 0, -1, false);
        Check.due("one asked without a rule", x.comes(0, 0, 3), 2);
        RenvoiDesk y = Check.told("land a 3;land b 3;land c 3;land d 3;land e 3;land f 3;issue i;"
                + "fact tb b;fact tc c;fact td d;fact te e;fact tf f;rule a i tb whole;rule b i tc whole;"
                + "rule c i td whole;rule d i te whole;rule e i tf whole;rule f i tb whole;");
        Check.due("six are asked", y.comes(0, 0, 3), 1);
        Check.due("five are asked", y.comes(1, 0, 3), 1);
        y.point(5, 0, -1, true);
        Check.due("six are asked, the last without a rule", y.comes(0, 0, 3), 5);
    }

    private static void answers() {
        RenvoiDesk x = Check.told(LANDS + "rule a i tb whole;rule b i tc whole;law a i 1;law b i 2;law c i 3;law c j 9;");
        Check.due("answer(0, 0, 0)", x.answer(0, 0, 0), 2);
        Check.due("answer(0, 0, 1)", x.answer(0, 0, 1), 3);
        Check.due("answer(0, 0, -1)", x.answer(0, 0, -1), 3);
        Check.due("answer(3, 0, -1) without", x.answer(3, 0, -1), 0);
        Check.due("answer(2, 1, -1)", x.answer(2, 1, -1), 9);
        x.join(1, 0);
        Check.due("the road is by the head, the answer by the issue", x.answer(0, 1, -1), 9);
    }

    private static void unlike() {
        RenvoiDesk x = Check.told(LANDS + "rule a i tb whole;rule b i tc whole;rule c i tb whole;");
        Check.due("a comes to b, c, b, b, a", x.unlike(0, 0), 18);
        Check.due("b comes to c, b, b, b, b", x.unlike(1, 0), 1);
        Check.due("c comes to b, c, c, c, c", x.unlike(2, 0), 1);
        Check.due("d stays", x.unlike(3, 0), 0);
        x.think(1, 0);
        Check.due("by theory 3 a comes to c", x.unlike(0, 0), 26);
        Check.due("unlike(4, 0)", x.unlike(4, 0), -1);
        Check.due("unlike(-1, 0)", x.unlike(-1, 0), -1);
        Check.due("unlike(0, 2)", x.unlike(0, 2), -1);
        Check.due("unlike(0, -1)", x.unlike(0, -1), -1);
    }

    private static void mostAndShop() {
        RenvoiDesk x = Check.told(LANDS + "rule a i tc inner;rule b i td inner;law b i 4;law c i 7;law d i 7;");
        Check.due("most(0, 0): c and d alike", x.most(0, 0), 2);
        Check.due("most(0, 1)", x.most(0, 1), 2);
        Check.due("most(1, 0): each its own", x.most(1, 0), 0);
        Check.due("most(1, 1)", x.most(1, 1), 1);
        Check.due("shop(0, 0)", x.shop(0, 0), 7);
        Check.due("shop(0, 1)", x.shop(0, 1), 0);
        Check.due("shop(1, 0)", x.shop(1, 0), 0);
        Check.due("shop(1, 1)", x.shop(1, 1), 0);
        x.point(2, 0, 3, false);
        Check.due("most(0, 0): d", x.most(0, 0), 3);
        Check.due("most(0, 1): d", x.most(0, 1), 3);
        x.say(3, 0, 8);
        Check.due("shop(0, 0) anew", x.shop(0, 0), 8);
        Check.due("shop(0, 1): the first that comes there", x.shop(0, 1), 1);
        for (int bad : new int[] {-1, 2, 5, Integer.MAX_VALUE}) {
            Check.due("most(" + bad + ", 0)", x.most(bad, 0), -1);
            Check.due("shop(" + bad + ", 0)", x.shop(bad, 0), -1);
            Check.due("most(0, " + bad + ")", x.most(0, bad), -1);
            Check.due("shop(0, " + bad + ")", x.shop(0, bad), -1);
        }
        x = Check.told("issue i;");
        Check.due("most(0, 0) without lands", x.most(0, 0), -1);
        Check.due("most(0, 1) without lands", x.most(0, 1), -1);
        Check.due("shop(0, 0) without lands", x.shop(0, 0), -1);
        Check.due("shop(0, 1) without lands", x.shop(0, 1), -1);
    }

    private static void tally() {
        RenvoiDesk x = Check.told(LANDS + "rule a i tc inner;rule b i td inner;law b i 4;law c i 7;law d i 7;law c j 99;");
        Check.due("tally(7)", x.tally(7), 4);
        Check.due("tally(4)", x.tally(4), 0);
        Check.due("tally(0)", x.tally(0), 3);
        Check.due("tally(99)", x.tally(99), 1);
        Check.due("tally(100)", x.tally(100), -1);
        Check.due("tally(-1)", x.tally(-1), -1);
        Check.due("tally(0) of a new one", new RenvoiDesk().tally(0), 0);
    }

    private static void wrongOnes() {
        RenvoiDesk x = Check.told(LANDS);
        for (int theory = -1; theory <= 4; theory++) {
            Check.due("comes(4, 0, t)", x.comes(4, 0, theory), -2);
            Check.due("comes(-1, 0, t)", x.comes(-1, 0, theory), -2);
            Check.due("comes(0, 2, t)", x.comes(0, 2, theory), -2);
            Check.due("comes(0, -1, t)", x.comes(0, -1, theory), -2);
            Check.due("answer(4, 0, t)", x.answer(4, 0, theory), -2);
            Check.due("answer(-1, 0, t)", x.answer(-1, 0, theory), -2);
            Check.due("answer(0, 2, t)", x.answer(0, 2, theory), -2);
            Check.due("answer(0, -1, t)", x.answer(0, -1, theory), -2);
        }
        for (int theory : new int[] {-2, 5, Integer.MAX_VALUE, Integer.MIN_VALUE}) {
            Check.due("comes(0, 0, " + theory + ")", x.comes(0, 0, theory), -2);
            Check.due("answer(0, 0, " + theory + ")", x.answer(0, 0, theory), -2);
        }
    }
}
