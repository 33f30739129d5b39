import java.io.IOException;

/** Promises 25 to 31 on a full desk: an ACT, wherever it is, changes what it names, and all else is left alone. */
public final class BoundsAloneTest {
    public static void main(String[] args) throws IOException {
        Bounds.open(args);
        tieAlone();
        thinkAlone();
        pointAlone();
        pointNoneAlone();
        sayAlone();
        joinAlone();
        cutAlone();
        mirrorAlone();
        Check.finish();
    }

    private static char land(int land) {
        return (char) ('a' + land);
    }

    private static char issue(int issue) {
        return (char) ('i' + issue);
    }

    private static char fact(int fact) {
        return (char) ('o' + fact);
    }

    /** Behind the ACT the desk is as if the text had told it so; behind undo as it was. */
    private static void asTold(String act, RenvoiDesk x, String text) {
        Check.due("what is told behind " + act, Bounds.picture(x), Bounds.picture(Check.told(text)));
        Check.due("undo()", x.undo(), 0);
        Check.due("what is told behind undo of " + act, Bounds.picture(x), Bounds.picture(Check.told(Bounds.FULL)));
    }

    private static void tieAlone() {
        Bounds.sentence("Promise 25", "A FACT tells a LAND", "each FACT each LAND, no other one");
        for (int fact = 0; fact < 5; fact++) {
            for (int land = 0; land < 6; land++) {
                RenvoiDesk x = Check.told(Bounds.FULL);
                Check.due("tie(" + fact + ", " + land + ")", x.tie(fact, land), fact);
                asTold("tie", x, Bounds.FULL.replaceAll("fact " + fact(fact) + " .;", "fact " + fact(fact) + " " + land(land) + ";"));
            }
        }
    }

    private static void thinkAlone() {
        Bounds.sentence("Promise 26", "A LAND has a THEORY", "each LAND each THEORY, no other one");
        for (int land = 0; land < 6; land++) {
            for (int theory = 0; theory <= 4; theory++) {
                RenvoiDesk x = Check.told(Bounds.FULL);
                Check.due("think(" + land + ", " + theory + ")", x.think(land, theory), land == 5 ? 1 : land);
                asTold("think", x, Bounds.FULL.replaceAll("land " + land(land) + " .;", "land " + land(land) + " " + theory + ";"));
            }
        }
    }

    private static String withoutRule(int land, int issue) {
        return Bounds.FULL.replaceAll("rule " + land(land) + " " + issue(issue) + " . [a-z]*;", "");
    }

    private static void pointAlone() {
        Bounds.sentence("Promise 27", "A RULE of a LAND on an ISSUE", "each LAND on each ISSUE, no other one");
        for (int land = 0; land < 6; land++) {
            for (int issue = 0; issue < 6; issue++) {
                int fact = (land + issue) % 5;
                for (boolean whole : new boolean[] {true, false}) {
                    RenvoiDesk x = Check.told(Bounds.FULL);
                    Check.due("point(" + land + ", " + issue + ", " + fact + ")", x.point(land, issue, fact, whole), true);
                    asTold("point", x, withoutRule(land, issue) + "rule " + land(land) + " " + issue(issue) + " " + fact(fact)
                            + (whole ? " whole;" : " inner;"));
                }
            }
        }
    }

    private static void pointNoneAlone() {
        Bounds.sentence("Promise 27", "NONE: none any more", "each LAND on each ISSUE, no other one");
        for (int land = 0; land < 6; land++) {
            for (int issue = 0; issue < 6; issue++) {
                RenvoiDesk x = Check.told(Bounds.FULL);
                Check.due("point(" + land + ", " + issue + ", -1)", x.point(land, issue, -1, issue > 2), true);
                asTold("point", x, withoutRule(land, issue));
            }
        }
    }

    private static void sayAlone() {
        Bounds.sentence("Promise 28", "INNER LAW of a LAND answers v", "each LAND on each ISSUE, no other one");
        for (int land = 0; land < 6; land++) {
            for (int issue = 0; issue < 6; issue++) {
                int v = 99 - 6 * land - issue;
                String law = "law " + land(land) + " " + issue(issue) + " ";
                RenvoiDesk x = Check.told(Bounds.FULL);
                int had = x.inner(land, issue);
                Check.due("say(" + land + ", " + issue + ", " + v + ")", x.say(land, issue, v), had);
                asTold("say", x, Bounds.FULL.replaceAll(law + "[0-9]*;", "") + law + v + ";");
            }
        }
    }

    /** All that is told but HEADS, and RULES by these. */
    private static String butHeads(RenvoiDesk x) {
        StringBuilder out = new StringBuilder("lands");
        for (int land = 0; land < 6; land++) {
            out.append(' ').append(x.land(land, 0)).append('/').append(x.land(land, 1));
            for (int issue = 0; issue < 6; issue++) {
                out.append(',').append(x.inner(land, issue));
            }
        }
        out.append("; facts");
        for (int fact = 0; fact < 5; fact++) {
            out.append(' ').append(x.fact(fact));
        }
        out.append("; deeds");
        for (int deed = 0; deed < 5; deed++) {
            out.append(' ').append(x.deed(deed));
        }
        return out.append("; rules ").append(x.count(4)).toString();
    }

    private static String heads(RenvoiDesk x) {
        StringBuilder out = new StringBuilder();
        for (int issue = 0; issue < 6; issue++) {
            out.append(x.head(issue));
        }
        return out.toString();
    }

    private static void joinAlone() {
        Bounds.sentence("Promise 29", "is that of another one", "each ISSUE to each other one; what is not a HEAD stays");
        for (int issue = 0; issue < 6; issue++) {
            for (int other = 0; other < 6; other++) {
                if (issue != other) {
                    RenvoiDesk x = Check.told(Bounds.FULL);
                    String before = butHeads(x);
                    Check.due("join(" + issue + ", " + other + ")", x.join(issue, other), 2);
                    Check.due("heads", heads(x), "012345".replace((char) ('0' + issue), (char) ('0' + other)));
                    Check.due("all else", butHeads(x), before);
                    Check.due("undo()", x.undo(), 0);
                    Check.due("heads", heads(x), "012345");
                    Check.due("what is told", Bounds.picture(x), Bounds.picture(Check.told(Bounds.FULL)));
                }
            }
        }
    }

    private static void cutAlone() {
        Bounds.sentence("Promise 30", "An ISSUE is its own HEAD", "each ISSUE of three; what is not a HEAD stays");
        for (int first = 0; first < 4; first++) {
            for (int head = first; head < first + 3; head++) {
                for (int issue = first; issue < first + 3; issue++) {
                    cutOfThree(first, head, issue);
                }
            }
        }
    }

    private static void cutOfThree(int first, int head, int issue) {
        RenvoiDesk x = Check.told(Bounds.FULL);
        StringBuilder due = new StringBuilder("012345");
        int others = issue != head ? head : issue == first ? first + 1 : first;
        for (int each = first; each < first + 3; each++) {
            x.join(each, head);
            due.setCharAt(each, (char) ('0' + (each == issue ? issue : others)));
        }
        String before = butHeads(x);
        String headsBefore = heads(x);
        Check.due("cut(" + issue + ") of three from " + first + " under " + head, x.cut(issue), 3);
        Check.due("heads", heads(x), due.toString());
        Check.due("all else", butHeads(x), before);
        x.undo();
        Check.due("heads behind undo", heads(x), headsBefore);
        Check.due("all else", butHeads(x), before);
    }

    private static void mirrorAlone() {
        Bounds.sentence("Promise 31", "Two LANDS are mirrored", "each two; HEADS, DEEDS and other LANDS stay");
        for (int land = 0; land < 6; land++) {
            for (int other = 0; other < 6; other++) {
                if (land != other) {
                    RenvoiDesk x = Check.told(Bounds.FULL);
                    Check.due("mirror(" + land + ", " + other + ")", x.mirror(land, other), true);
                    asTold("mirror", x, mirrored(land(land), land(other)));
                }
            }
        }
    }

    /** The full text with two LANDS exchanged wherever it tells of them; LANDS are still told in their order. */
    private static String mirrored(char one, char two) {
        StringBuilder out = new StringBuilder();
        String[] lands = Bounds.FULL.substring(0, Bounds.FULL.indexOf("issue")).split(";");
        char theory = lands[one - 'a'].charAt(7);
        lands[one - 'a'] = "land " + one + " " + lands[two - 'a'].charAt(7);
        lands[two - 'a'] = "land " + two + " " + theory;
        for (String each : lands) {
            out.append(each).append(';');
        }
        String rest = Bounds.FULL.substring(out.length());
        return out + rest.replaceAll(" " + one + "\\b", " @").replaceAll(" " + two + "\\b", " " + one).replace('@', two);
    }
}
