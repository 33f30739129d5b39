import java.io.IOException;

/** What stands ahead of the parts of the document, phrase by phrase: "What it is", the first lines of "Terms", the constants. */
public final class BoundsStoryTest {
    /**
     * An estate: England goes by where the last home was, Spain by where the dead one was born, France by the home.
     * The form of a will: England by where the goods lie, and there by the inner law.
     */
    private static final String STORY = "land engl 3;land spain 2;land france 1;issue estate;issue form;"
            + "fact home spain;fact birth france;fact goods engl;"
            + "rule engl estate home whole;rule spain estate birth whole;rule france estate home whole;"
            + "rule spain form goods inner;"
            + "law engl estate 4;law spain estate 0;law france estate 9;law engl form 1;law france form 2;"
            + "deed will estate form;deed lease form;";
    private static final int ENGLAND = 0;
    private static final int SPAIN = 1;
    private static final int FRANCE = 2;
    private static final int ESTATE = 0;
    private static final int FORM = 1;
    private static final int HOME = 0;
    private static final int BIRTH = 1;
    private static final int GOODS = 2;
    private static final int WILL = 0;
    private static final int LEASE = 1;

    public static void main(String[] args) throws IOException {
        Bounds.open(args);
        pointOnAndBack();
        cutApart();
        stoppedByTheories();
        upTo512Calls();
        toldAsAText();
        roads();
        whoseLaw();
        whereDeedsStand();
        toldAnew();
        joinedCutMirrored();
        whichLoops();
        whoAgrees();
        whereToSue();
        whichFact();
        fewest();
        undoneKept();
        constants();
        Check.finish();
    }

    // ---- What it is

    private static void pointOnAndBack() {
        Bounds.sentence("What it is", "choice-of-law rules of lands that point on and back");
        RenvoiDesk x = Check.told(STORY);
        Check.due("England on to Spain", x.road(ENGLAND, ESTATE, 1), SPAIN);
        Check.due("Spain on to France", x.road(ENGLAND, ESTATE, 2), FRANCE);
        Check.due("France back to Spain", x.rule(FRANCE, ESTATE, 2), SPAIN);
    }

    private static void cutApart() {
        Bounds.sentence("What it is", "issues cut apart");
        RenvoiDesk x = Check.told(STORY);
        x.join(FORM, ESTATE);
        Check.due("one head", x.count(7), 1);
        Check.due("the form by the rules of the estate", x.road(ENGLAND, FORM, -1), 3);
        x.cut(FORM);
        Check.due("two heads", x.count(7), 2);
        Check.due("the form by its own rules", x.road(ENGLAND, FORM, -1), 1);
    }

    private static void stoppedByTheories() {
        Bounds.sentence("What it is", "loops stopped by told theories");
        RenvoiDesk x = Check.told(STORY);
        int[] due = {SPAIN, FRANCE, SPAIN, SPAIN, ENGLAND};
        for (int theory = 0; theory <= 4; theory++) {
            x.think(ENGLAND, theory);
            Check.due("England by " + theory, x.comes(ENGLAND, ESTATE, -1), due[theory]);
        }
    }

    private static void upTo512Calls() {
        Bounds.sentence("What it is", "An object is used for at most 512 calls after it has been made",
                "the 512th answers as the first one; RandomRunsTest has such runs by chance");
        RenvoiDesk x = new RenvoiDesk();
        int calls = 0;
        while (calls < 511) {
            Check.due("say, call " + calls, x.say(0, 0, 0), -1);
            calls++;
        }
        Check.due("call 512", x.feed(0, 0, 0, 0, 0), 20);
        x = Check.told(STORY);
        calls = (STORY.length() + 19) / 20 + 1;
        Check.due("calls for the text", calls < 30, true);
        int said = 4;
        while (calls < 512) {
            int v = (said + 7) % 100;
            Check.due("say, call " + calls, x.say(ENGLAND, ESTATE, v), said);
            said = v;
            calls++;
        }
    }

    // ---- Terms: the first lines

    private static void toldAsAText() {
        Bounds.sentence("Terms", "Lands with theories, issues, facts that tie a case to lands");
        RenvoiDesk x = Check.told(STORY);
        Check.due("three lands", x.count(0), 3);
        Check.due("a theory", x.land(ENGLAND, 0), 3);
        Check.due("two issues", x.count(1), 2);
        Check.due("a fact", x.fact(BIRTH), FRANCE);
        Bounds.sentence("Terms", "rules by which a land points by a fact to another one's whole law or inner law");
        Check.due("by the home", x.rule(ENGLAND, ESTATE, 0), HOME);
        Check.due("whole", x.rule(ENGLAND, ESTATE, 1), 1);
        Check.due("to Spain", x.rule(ENGLAND, ESTATE, 2), SPAIN);
        Check.due("inner", x.rule(SPAIN, FORM, 1), 0);
        Bounds.sentence("Terms", "what inner laws answer, deeds that need some issues are told as a text");
        Check.due("an answer", x.inner(FRANCE, ESTATE), 9);
        Check.due("a will", x.deed(WILL), 3);
        Check.due("a lease", x.deed(LEASE), 2);
    }

    private static void roads() {
        Bounds.sentence("Terms", "roads from land to land, how they end, loops");
        RenvoiDesk x = Check.told(STORY);
        Check.due("a road", x.road(FRANCE, ESTATE, 1), SPAIN);
        Check.due("without a rule", x.ends(FRANCE, FORM, 0), 0);
        Check.due("by an inner one", x.ends(SPAIN, FORM, 0), 2);
        Check.due("in a loop", x.ends(ENGLAND, ESTATE, 0), 3);
        Check.due("who ends in one", x.trapped(ESTATE), 7);
    }

    private static void whoseLaw() {
        Bounds.sentence("Terms", "whose law it comes to by each theory, what that answers");
        RenvoiDesk x = Check.told(STORY);
        int[] whose = {SPAIN, FRANCE, SPAIN, SPAIN, ENGLAND};
        int[] answers = {0, 9, 0, 0, 4};
        for (int theory = 0; theory <= 4; theory++) {
            Check.due("comes by " + theory, x.comes(ENGLAND, ESTATE, theory), whose[theory]);
            Check.due("answer by " + theory, x.answer(ENGLAND, ESTATE, theory), answers[theory]);
        }
    }

    private static void whereDeedsStand() {
        Bounds.sentence("Terms", "where deeds stand, where they limp");
        RenvoiDesk x = Check.told(STORY);
        Check.due("the will in France alone", x.where(WILL), 1 << FRANCE);
        Check.due("the lease in all", x.where(LEASE), 7);
        Check.due("the will limps", x.limps(), 1 << WILL);
    }

    private static void toldAnew() {
        Bounds.sentence("Terms", "facts, theories, rules, answers told anew");
        RenvoiDesk x = Check.told(STORY);
        Check.due("the home", x.tie(HOME, FRANCE), SPAIN);
        Check.due("the theory", x.think(ENGLAND, 0), 3);
        Check.due("the rule", x.point(SPAIN, ESTATE, GOODS, false), true);
        Check.due("the answer", x.say(FRANCE, ESTATE, 8), 9);
        Check.due("all of these", x.answer(ENGLAND, ESTATE, -1), 8);
        Check.due("and the rule", x.comes(SPAIN, ESTATE, -1), ENGLAND);
    }

    private static void joinedCutMirrored() {
        Bounds.sentence("Terms", "issues joined and cut, lands mirrored");
        RenvoiDesk x = Check.told(STORY);
        Check.due("joined", x.join(FORM, ESTATE), 2);
        Check.due("cut", x.cut(ESTATE), 2);
        Check.due("mirrored", x.mirror(SPAIN, FRANCE), true);
        Check.due("the home is in France now", x.fact(HOME), FRANCE);
        Check.due("France has the inner rule now", x.rule(FRANCE, FORM, 1), 0);
    }

    private static void whichLoops() {
        Bounds.sentence("Terms", "which loops there are");
        RenvoiDesk x = Check.told(STORY);
        Check.due("one on the estate", x.loop(ESTATE, -1), 1);
        Check.due("Spain and France", x.loop(ESTATE, 0), 6);
        Check.due("none on the form", x.loop(FORM, -1), 0);
    }

    private static void whoAgrees() {
        Bounds.sentence("Terms", "who agrees");
        RenvoiDesk x = Check.told(STORY);
        Check.due("England and Spain, on Spain's law", x.most(ESTATE, 0), SPAIN);
        Check.due("two of them", x.most(ESTATE, 1), 2);
        Check.due("theories that do not agree with the end of the road", x.unlike(ENGLAND, ESTATE), 18);
    }

    private static void whereToSue() {
        Bounds.sentence("Terms", "where to sue");
        RenvoiDesk x = Check.told(STORY);
        Check.due("for 9", x.shop(ESTATE, 0), 9);
        Check.due("in France", x.shop(ESTATE, 1), FRANCE);
        Check.due("two answers of 0", x.tally(0), 2);
    }

    private static void whichFact() {
        Bounds.sentence("Terms", "which fact to change");
        RenvoiDesk x = Check.told(STORY);
        Check.due("the home", x.best(WILL, 0), HOME);
        Check.due("to England", x.best(WILL, 1), ENGLAND);
        Check.due("then it stands in all", x.best(WILL, 2), 3);
    }

    private static void fewest() {
        Bounds.sentence("Terms", "the fewest of them");
        RenvoiDesk x = Check.told(STORY);
        Check.due("of the will", x.fewest(WILL), 1);
        Check.due("of the lease", x.fewest(LEASE), 0);
    }

    private static void undoneKept() {
        Bounds.sentence("Terms", "undone, kept");
        RenvoiDesk x = Check.told(STORY);
        x.keep(1, false);
        x.tie(HOME, ENGLAND);
        x.think(FRANCE, 0);
        Check.due("undone", x.undo(), 1);
        Check.due("the theory is as it was", x.land(FRANCE, 0), 1);
        Check.due("kept", x.keep(1, true), true);
        Check.due("the home is as it was", x.fact(HOME), SPAIN);
    }

    // ---- The constants

    private static void constants() {
        Bounds.sentence("The constants", "`NONE = -1`: None");
        Check.due("NONE", RenvoiDesk.NONE, -1);
    }
}
