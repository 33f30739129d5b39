import java.io.IOException;

/** Boundary cases of Terms 2 (COMES TO, ANSWER): each THEORY. */
public final class BoundsTheoriesTest {
    /** Lands a to e can be pointed to; f cannot. */
    private static final String LANDS = "land a 0;land b 0;land c 0;land d 0;land e 0;land f 0;issue i;issue j;"
            + "fact o a;fact p b;fact q c;fact r d;fact s e;";
    private static final int A = 0;
    private static final int B = 1;
    private static final int C = 2;
    private static final int D = 3;
    private static final int E = 4;
    private static final int F = 5;

    public static void main(String[] args) throws IOException {
        Bounds.open(args);
        ofTheLandThatIsAsked();
        onAnIssue();
        whoseInnerLaw();
        theory0();
        theory1OfTheNext();
        theory1ButInner();
        theory1NotItself();
        theory2();
        theory3AsTheOthersThink();
        theory3ButInner();
        theory3AskedAlready();
        theory3TheFirstOneToo();
        theory4();
        theory4InTurn();
        answerOnTheIssue();
        ownByTheLandAsked();
        Check.finish();
    }

    private static RenvoiDesk told(String rules) {
        return Check.told(LANDS + rules);
    }

    private static void comes(RenvoiDesk x, int land, int theory, int want) {
        Check.due("comes(" + land + ", 0, " + theory + ")", x.comes(land, 0, theory), want);
    }

    // ---- Terms 2: COMES TO

    private static void ofTheLandThatIsAsked() {
        Bounds.sentence("Terms 2", "COMES TO, by a THEORY, of a LAND (that which is asked)", "whatever THEORY is its own");
        RenvoiDesk x = told("rule f i o whole;rule a i p whole;rule b i q whole;rule c i p whole;");
        x.think(A, 4);
        int[] due = {A, B, B, A, F};
        for (int own = 0; own <= 4; own++) {
            x.think(F, own);
            for (int theory = 0; theory <= 4; theory++) {
                comes(x, F, theory, due[theory]);
            }
        }
        comes(x, B, 0, C);
        comes(x, C, 0, B);
        comes(x, D, 0, D);
    }

    private static void onAnIssue() {
        Bounds.sentence("Terms 2", "on an ISSUE, whose INNER LAW it is:", "of each ISSUE for itself");
        RenvoiDesk x = told("rule f i o whole;rule a i p whole;rule f j q whole;rule c j s inner;");
        int[][] due = {{A, B, B, B, B}, {C, E, E, E, E}};
        x.think(A, 1);
        x.think(C, 2);
        for (int issue = 0; issue <= 1; issue++) {
            for (int theory = 0; theory <= 4; theory++) {
                Check.due("comes(5, " + issue + ", " + theory + ")", x.comes(F, issue, theory), due[issue][theory]);
            }
        }
    }

    private static void whoseInnerLaw() {
        Bounds.sentence("Terms 2", "whose INNER LAW it is:", "it answers, not that of the LAND that is asked");
        RenvoiDesk x = told("rule f i o whole;rule a i p whole;rule b i q whole;rule c i p whole;"
                + "law a i 10;law b i 20;law c i 30;law d i 40;law f i 60;");
        for (int land = 0; land < 6; land++) {
            for (int theory = 0; theory <= 4; theory++) {
                Check.due("answer(" + land + ", 0, " + theory + ")", x.answer(land, 0, theory),
                        x.inner(x.comes(land, 0, theory), 0));
            }
        }
        Check.due("answer(5, 0, 0)", x.answer(F, 0, 0), 10);
        Check.due("answer(5, 0, 4)", x.answer(F, 0, 4), 60);
    }

    private static void theory0() {
        Bounds.sentence("Terms 2", "0: if it has no RULE, or that points to itself: its own; else that of the one to which it points");
        RenvoiDesk x = told("rule b i p whole;rule c i q inner;rule d i o whole;rule e i r whole;rule f i s inner;");
        int[] due = {A, B, C, A, D, E};
        for (int land = 0; land < 6; land++) {
            comes(x, land, 0, due[land]);
        }
    }

    private static void theory1OfTheNext() {
        Bounds.sentence("Terms 2", "1: as 0; but if its WAY is whole, and the one to which it points has a RULE", "one step more, no further");
        RenvoiDesk x = told("rule f i o whole;rule a i p whole;rule b i q whole;rule c i r inner;");
        comes(x, F, 1, B);
        comes(x, A, 1, C);
        comes(x, B, 1, D);
        comes(x, C, 1, D);
        comes(x, D, 1, D);
        x.point(A, 0, 1, false);
        comes(x, F, 1, B);
        x.point(A, 0, -1, false);
        comes(x, F, 1, A);
        x.point(A, 0, 0, true);
        comes(x, A, 1, A);
    }

    private static void theory1ButInner() {
        Bounds.sentence("Terms 2", "1: as 0; but if its WAY is whole", "its WAY inner: as 0");
        RenvoiDesk x = told("rule f i o inner;rule a i p whole;rule b i q whole;");
        comes(x, F, 1, A);
        x.point(F, 0, 0, true);
        comes(x, F, 1, B);
    }

    private static void theory1NotItself() {
        Bounds.sentence("Terms 2", "that points to another one (not itself): that of this one", "itself: as 0; back to the first: that");
        RenvoiDesk x = told("rule f i o whole;rule a i o whole;rule b i q whole;rule c i p whole;");
        comes(x, F, 1, A);
        comes(x, B, 1, B);
        comes(x, C, 1, C);
    }

    private static void theory2() {
        Bounds.sentence("Terms 2", "2: that of the LAND at which the ROAD ENDS, or the LOOP CLOSES");
        RenvoiDesk x = told("rule f i o whole;rule a i p whole;rule b i q whole;rule c i r whole;rule d i s whole;");
        comes(x, F, 2, E);
        comes(x, E, 2, E);
        x.point(E, 0, 4, true);
        comes(x, F, 2, E);
        x.point(E, 0, 1, false);
        comes(x, F, 2, B);
        comes(x, B, 2, B);
        x.point(E, 0, 1, true);
        comes(x, F, 2, B);
        comes(x, C, 2, C);
    }

    private static void theory3AsTheOthersThink() {
        Bounds.sentence("Terms 2", "what the one to which it points COMES TO, asked in its turn by its own THEORY");
        RenvoiDesk x = told("rule f i o whole;rule a i p whole;rule b i q whole;rule c i r whole;rule d i s whole;rule e i q whole;");
        int[] near = {B, C, C, C, A};
        x.think(B, 3);
        x.think(C, 4);
        for (int theory = 0; theory <= 4; theory++) {
            x.think(A, theory);
            comes(x, F, 3, near[theory]);
        }
        x.think(A, 3);
        x.think(C, 3);
        int[] far = {E, C, D, C, D};
        x.think(E, 3);
        for (int theory = 0; theory <= 4; theory++) {
            x.think(D, theory);
            comes(x, F, 3, far[theory]);
        }
        x.point(D, 0, -1, true);
        x.think(D, 3);
        comes(x, F, 3, D);
    }

    private static void theory3ButInner() {
        Bounds.sentence("Terms 2", "3: as 0; but if its WAY is whole", "its WAY inner, no RULE, to itself: as 0");
        RenvoiDesk x = told("rule f i o inner;rule a i p whole;rule b i q whole;");
        x.think(A, 0);
        comes(x, F, 3, A);
        x.point(F, 0, 0, true);
        comes(x, F, 3, B);
        x.think(A, 3);
        x.point(A, 0, 1, false);
        comes(x, F, 3, B);
        x.point(A, 0, 0, true);
        comes(x, F, 3, A);
        comes(x, A, 3, A);
        x.point(A, 0, -1, true);
        comes(x, F, 3, A);
        comes(x, A, 3, A);
    }

    private static void theory3AskedAlready() {
        Bounds.sentence("Terms 2", "was that one asked already (the first one, too): that one's own", "one asked in its turn");
        RenvoiDesk x = told("rule f i o whole;rule a i p whole;rule b i q whole;rule c i r whole;rule d i s whole;rule e i o whole;");
        for (int land = 0; land < 6; land++) {
            x.think(land, 3);
        }
        comes(x, F, 3, A);
        x.point(E, 0, 3, true);
        comes(x, F, 3, D);
        x.point(B, 0, 0, true);
        comes(x, F, 3, A);
    }

    private static void theory3TheFirstOneToo() {
        Bounds.sentence("Terms 2", "was that one asked already (the first one, too): that one's own", "the first one, by whatever THEORY of its own");
        RenvoiDesk x = told("rule a i p whole;rule b i o whole;rule c i r whole;rule d i s whole;rule e i q whole;");
        x.think(B, 3);
        for (int theory = 0; theory <= 4; theory++) {
            x.think(A, theory);
            comes(x, A, 3, A);
        }
        x.think(D, 3);
        x.think(E, 3);
        comes(x, C, 3, C);
        x.think(C, 3);
        comes(x, D, 3, D);
        comes(x, E, 3, E);
    }

    private static void theory4() {
        Bounds.sentence("Terms 2", "4: as 2; but with a LOOP: its own");
        RenvoiDesk x = told("rule f i o whole;rule a i p whole;rule b i q whole;rule c i r whole;");
        comes(x, F, 4, D);
        comes(x, D, 4, D);
        x.point(D, 0, 1, false);
        comes(x, F, 4, B);
        x.point(D, 0, 1, true);
        for (int land : new int[] {A, B, C, D, F}) {
            comes(x, land, 4, land);
        }
        x.point(D, 0, 3, true);
        comes(x, F, 4, D);
    }

    private static void theory4InTurn() {
        Bounds.sentence("Terms 2", "(that of the LAND at which the ROAD begins)", "of the one asked in its turn");
        RenvoiDesk x = told("rule f i o whole;rule a i p whole;rule b i q whole;rule c i p whole;");
        x.think(A, 4);
        comes(x, F, 3, A);
        x.think(A, 3);
        x.think(B, 4);
        comes(x, F, 3, B);
        comes(x, F, 4, F);
    }

    private static void answerOnTheIssue() {
        Bounds.sentence("Terms 2", "ANSWER: what that INNER LAW answers on the ISSUE", "the ISSUE, not its HEAD");
        RenvoiDesk x = told("rule a i p whole;law b i 5;law b j 9;law a i 1;law a j 2;");
        Check.due("answer(0, 0, 0)", x.answer(A, 0, 0), 5);
        Check.due("answer(0, 1, 0)", x.answer(A, 1, 0), 2);
        x.join(1, 0);
        Check.due("answer(0, 1, 0): the road of i, the answer on j", x.answer(A, 1, 0), 9);
        Check.due("answer(0, 1, -1): also the own one", x.answer(A, 1, -1), 9);
        Check.due("answer(0, 0, -1)", x.answer(A, 0, -1), 5);
        Check.due("answer(2, 0, 0): 0 without", x.answer(C, 0, 0), 0);
    }

    private static void ownByTheLandAsked() {
        Bounds.sentence("Terms 2", "OWN: by the THEORY of the LAND that is asked", "each of the five");
        RenvoiDesk x = told("rule f i o whole;rule a i p whole;rule b i q whole;rule c i p whole;"
                + "law a i 10;law b i 20;law c i 30;law f i 60;");
        x.think(A, 1);
        int[] due = {10, 20, 20, 30, 60};
        for (int theory = 0; theory <= 4; theory++) {
            x.think(F, theory);
            Check.due("answer(5, 0, -1) by " + theory, x.answer(F, 0, -1), due[theory]);
            Check.due("answer(5, 0, " + theory + ")", x.answer(F, 0, theory), due[theory]);
        }
    }
}
