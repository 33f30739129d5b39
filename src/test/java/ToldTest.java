/** Promises 4 to 9: land, fact, rule, inner, head, deed. */
public final class ToldTest {
    private static final String TEXT = "land a 2;land b 0;land c 4;issue i;issue j;issue k;"
            + "fact f b;fact g c;fact h a;"
            + "rule a i f whole;rule a k g inner;rule b j h whole;"
            + "law a i 5;law c k 99;law b j 1;"
            + "deed d k i;deed e j;";

    public static void main(String[] args) {
        land();
        fact();
        rule();
        inner();
        head();
        deed();
        Check.finish();
    }

    private static void land() {
        RenvoiDesk x = Check.told(TEXT);
        Check.due("land(0, 0)", x.land(0, 0), 2);
        Check.due("land(1, 0)", x.land(1, 0), 0);
        Check.due("land(2, 0)", x.land(2, 0), 4);
        Check.due("land(0, 1)", x.land(0, 1), 2);
        Check.due("land(1, 1)", x.land(1, 1), 1);
        Check.due("land(2, 1)", x.land(2, 1), 0);
        Check.due("land(0, 2)", x.land(0, 2), 5);
        Check.due("land(1, 2)", x.land(1, 2), 2);
        Check.due("land(2, 2)", x.land(2, 2), 0);
        for (int what = 0; what <= 2; what++) {
            Check.due("land(3, " + what + ")", x.land(3, what), -1);
            Check.due("land(-1, " + what + ")", x.land(-1, what), -1);
        }
        Check.due("land(0, 3)", x.land(0, 3), -1);
        Check.due("land(0, -1)", x.land(0, -1), -1);
        x.join(1, 0);
        Check.due("land(0, 2) by heads", x.land(0, 2), 7);
        Check.due("land(1, 2) by heads", x.land(1, 2), 0);
        Check.due("land(1, 1) is told of it still", x.land(1, 1), 1);
    }

    private static void fact() {
        RenvoiDesk x = Check.told(TEXT);
        Check.due("fact(0)", x.fact(0), 1);
        Check.due("fact(1)", x.fact(1), 2);
        Check.due("fact(2)", x.fact(2), 0);
        Check.due("fact(3)", x.fact(3), -1);
        Check.due("fact(-1)", x.fact(-1), -1);
    }

    private static void rule() {
        RenvoiDesk x = Check.told(TEXT);
        Check.due("rule(0, 0, 0)", x.rule(0, 0, 0), 0);
        Check.due("rule(0, 0, 1)", x.rule(0, 0, 1), 1);
        Check.due("rule(0, 0, 2)", x.rule(0, 0, 2), 1);
        Check.due("rule(0, 2, 0)", x.rule(0, 2, 0), 1);
        Check.due("rule(0, 2, 1)", x.rule(0, 2, 1), 0);
        Check.due("rule(0, 2, 2)", x.rule(0, 2, 2), 2);
        for (int what = 0; what <= 2; what++) {
            Check.due("rule(0, 1, " + what + ")", x.rule(0, 1, what), -2);
        }
        Check.ruleThrows("rule(3, 0, 0)", x, 3, 0, 0);
        Check.ruleThrows("rule(-1, 0, 0)", x, -1, 0, 0);
        Check.ruleThrows("rule(0, 3, 0)", x, 0, 3, 0);
        Check.ruleThrows("rule(0, -1, 0)", x, 0, -1, 0);
        Check.ruleThrows("rule(0, 0, 3)", x, 0, 0, 3);
        Check.ruleThrows("rule(0, 0, -1)", x, 0, 0, -1);
        Check.ruleThrows("rule(0, 1, 3), without a rule", x, 0, 1, 3);
        x.join(1, 2);
        Check.due("rule(0, 1, 0) by its head", x.rule(0, 1, 0), 1);
        Check.due("rule(1, 1, 0) by its head", x.rule(1, 1, 0), -2);
    }

    private static void inner() {
        RenvoiDesk x = Check.told(TEXT);
        Check.due("inner(0, 0)", x.inner(0, 0), 5);
        Check.due("inner(2, 2)", x.inner(2, 2), 99);
        Check.due("inner(1, 1)", x.inner(1, 1), 1);
        Check.due("inner(0, 1) without", x.inner(0, 1), 0);
        Check.due("inner(3, 0)", x.inner(3, 0), -1);
        Check.due("inner(0, 3)", x.inner(0, 3), -1);
        Check.due("inner(-1, 0)", x.inner(-1, 0), -1);
        Check.due("inner(0, -1)", x.inner(0, -1), -1);
        x.join(0, 1);
        Check.due("inner(0, 0) is by the issue itself", x.inner(0, 0), 5);
    }

    private static void head() {
        RenvoiDesk x = Check.told(TEXT);
        for (int issue = 0; issue < 3; issue++) {
            Check.due("head(" + issue + ")", x.head(issue), issue);
        }
        Check.due("head(3)", x.head(3), -1);
        Check.due("head(-1)", x.head(-1), -1);
        x.join(0, 2);
        Check.due("head(0) behind join", x.head(0), 2);
        Check.desk(x, TEXT);
        Check.due("head(0) behind desk", x.head(0), 0);
    }

    private static void deed() {
        RenvoiDesk x = Check.told(TEXT);
        Check.due("deed(0)", x.deed(0), 5);
        Check.due("deed(1)", x.deed(1), 2);
        Check.due("deed(2)", x.deed(2), -1);
        Check.due("deed(-1)", x.deed(-1), -1);
    }
}
