import java.util.ArrayList;
import java.util.List;
import java.util.NoSuchElementException;
import java.util.Random;

/** All promises: runs of calls by chance, the same in every run of the test, held against the Oracle. */
public final class RandomRunsTest {
    private static final int TEXTS = 30_000;
    private static final int RUNS = 2_500;
    private static final int CALLS = 200;
    private static final int LONG_RUNS = 200;
    /** As many as an object is used for. */
    private static final int ALL_CALLS = 512;
    /** A text of 700 bytes, one desk that reads it, one ahead that empties the tape. */
    private static final int CALLS_FOR_A_TEXT = 37;
    private static final String ODD = "abcxyz 019;\n?AZ`{/:" + (char) 0 + (char) 200;

    private final Random chance;
    private final RenvoiDesk desk = new RenvoiDesk();
    private final Oracle oracle = new Oracle();
    private final StringBuilder ran = new StringBuilder();
    private int called;

    private RandomRunsTest(long seed) {
        chance = new Random(seed);
    }

    public static void main(String[] args) {
        for (int seed = 0; seed < TEXTS; seed++) {
            RandomRunsTest run = new RandomRunsTest(seed);
            run.tellText(run.spoiled(run.text()));
        }
        for (int seed = 0; seed < RUNS; seed++) {
            new RandomRunsTest(1_000_000 + seed).run(CALLS);
        }
        for (int seed = 0; seed < LONG_RUNS; seed++) {
            RandomRunsTest run = new RandomRunsTest(2_000_000 + seed);
            run.run(ALL_CALLS);
            Check.due("calls of a long run", run.called, ALL_CALLS);
        }
        Check.finish();
    }

    private void run(int most) {
        tellText(text());
        while (called < most) {
            if (chance.nextInt(60) == 0 && called + CALLS_FOR_A_TEXT < most) {
                String text = text();
                tellText(chance.nextInt(3) == 0 ? spoiled(text) : text);
            }
            call(most - called);
        }
    }

    private void due(String call, long got, long want) {
        called++;
        ran.append(call).append(' ');
        Check.due(got == want ? call : ran.toString(), got, want);
    }

    // ---- texts

    private String pick(List<String> names) {
        return names.isEmpty() || chance.nextInt(200) == 0 ? "nobody" : names.get(chance.nextInt(names.size()));
    }

    private String text() {
        List<String> lands = new ArrayList<>();
        List<String> issues = new ArrayList<>();
        List<String> facts = new ArrayList<>();
        StringBuilder out = new StringBuilder();
        int mostLands = 1 + chance.nextInt(6);
        for (int i = 0; i < mostLands; i++) {
            lands.add("l" + (char) ('a' + i));
            out.append("land ").append(lands.get(i)).append(' ').append(chance.nextInt(5)).append(';');
        }
        int mostIssues = chance.nextInt(30) == 0 ? 0 : 1 + chance.nextInt(6);
        for (int i = 0; i < mostIssues; i++) {
            issues.add("i" + (char) ('a' + i));
            out.append("issue ").append(issues.get(i)).append(";\n");
        }
        int mostFacts = chance.nextInt(6);
        for (int i = 0; i < mostFacts; i++) {
            facts.add("f" + (char) ('a' + i));
            out.append("fact ").append(facts.get(i)).append(' ').append(pick(lands)).append(';');
        }
        int density = 1 + chance.nextInt(8);
        for (String land : lands) {
            for (String issue : issues) {
                if (!facts.isEmpty() && chance.nextInt(8) < density && out.length() < 640) {
                    out.append("rule ").append(land).append(' ').append(issue).append(' ').append(pick(facts))
                            .append(chance.nextInt(4) == 0 ? " inner;" : " whole;");
                }
                if (chance.nextInt(3) > 0 && out.length() < 640) {
                    out.append("law ").append(land).append(' ').append(issue).append(' ')
                            .append(chance.nextInt(4) == 0 ? chance.nextInt(100) : 1 + chance.nextInt(3)).append(';');
                }
            }
        }
        int mostDeeds = issues.isEmpty() ? 0 : chance.nextInt(6);
        for (int i = 0; i < mostDeeds && out.length() < 660; i++) {
            out.append("deed d").append((char) ('a' + i));
            int from = chance.nextInt(issues.size());
            int many = 1 + chance.nextInt(2);
            for (int k = from; k < Math.min(from + many, issues.size()); k++) {
                out.append(' ').append(issues.get(k));
            }
            out.append(';');
        }
        return out.substring(0, Math.min(700, out.length()));
    }

    private String spoiled(String text) {
        StringBuilder out = new StringBuilder(text);
        int times = 1 + chance.nextInt(3);
        for (int i = 0; i < times && out.length() > 0; i++) {
            int at = chance.nextInt(out.length());
            switch (chance.nextInt(6)) {
                case 0 -> out.deleteCharAt(at);
                case 1 -> out.insert(at, ODD.charAt(chance.nextInt(ODD.length())));
                case 2 -> out.setCharAt(at, ODD.charAt(chance.nextInt(ODD.length())));
                case 3 -> out.setLength(at);
                case 4 -> moveLine(out);
                default -> out.append(new String[] {"land la 0;", "issue z;", "fact z la;", "deed z ia;", "rule la ia fa whole;",
                    "law la ia 0;", "land z 7;", "deed z ia ia;", ";", "land"}[chance.nextInt(10)]);
            }
        }
        return out.substring(0, Math.min(700, out.length()));
    }

    private void moveLine(StringBuilder out) {
        String[] lines = out.toString().split(";");
        int from = chance.nextInt(Math.max(1, lines.length));
        int to = chance.nextInt(Math.max(1, lines.length));
        if (lines.length > 0) {
            String line = lines[from];
            lines[from] = lines[to];
            lines[to] = line;
            out.setLength(0);
            for (String each : lines) {
                out.append(each).append(';');
            }
        }
    }

    private void tellText(String text) {
        if (oracle.count(6) != 0) {
            due("desk(0)", desk.desk(0), oracle.desk(0));
        }
        StringBuilder padded = new StringBuilder(text);
        while (padded.length() % 20 != 0) {
            padded.append(chance.nextInt(2) == 0 ? ' ' : '?');
        }
        for (int i = 0; i < padded.length(); i += 20) {
            int[] n = new int[5];
            for (int k = 0; k < 20; k++) {
                n[k / 4] = n[k / 4] << 8 | padded.charAt(i + k);
            }
            due("feed", desk.feed(n[0], n[1], n[2], n[3], n[4]), oracle.feed(n[0], n[1], n[2], n[3], n[4]));
        }
        due("desk of [" + text + "]", desk.desk(text.length()), oracle.desk(text.length()));
    }

    // ---- calls

    private int upTo(int most) {
        int wild = chance.nextInt(40);
        if (wild == 0) {
            return chance.nextInt();
        }
        return wild < 4 ? chance.nextInt(most + 4) - 2 : chance.nextInt(most + 1);
    }

    private void rule(int land, int issue, int what) {
        long want;
        long got;
        try {
            want = oracle.rule(land, issue, what);
        } catch (NoSuchElementException e) {
            want = Long.MIN_VALUE;
        }
        try {
            got = desk.rule(land, issue, what);
        } catch (NoSuchElementException e) {
            got = Long.MIN_VALUE;
        }
        due("rule(" + land + ", " + issue + ", " + what + ")", got, want);
    }

    private static long bit(boolean b) {
        return b ? 1 : 0;
    }

    private void call(int most) {
        int a = upTo(5);
        int b = upTo(5);
        int c = upTo(4);
        boolean w = chance.nextInt(4) > 0;
        String abc = "(" + a + ", " + b + ", " + c + ", " + w + ")";
        switch (chance.nextInt(36)) {
            case 0 -> due("land" + abc, desk.land(a, c), oracle.land(a, c));
            case 1 -> due("fact" + abc, desk.fact(a), oracle.fact(a));
            case 2 -> rule(a, b, c);
            case 3 -> due("inner" + abc, desk.inner(a, b), oracle.inner(a, b));
            case 4 -> due("head" + abc, desk.head(a), oracle.head(a));
            case 5 -> due("deed" + abc, desk.deed(a), oracle.deed(a));
            case 6 -> due("road" + abc, desk.road(a, b, c - 1), oracle.road(a, b, c - 1));
            case 7 -> due("ends" + abc, desk.ends(a, b, c), oracle.ends(a, b, c));
            case 8 -> due("trapped" + abc, desk.trapped(a), oracle.trapped(a));
            case 9 -> due("loop" + abc, desk.loop(a, c - 1), oracle.loop(a, c - 1));
            case 10, 11 -> due("comes" + abc, desk.comes(a, b, c), oracle.comes(a, b, c));
            case 12 -> due("comes own" + abc, desk.comes(a, b, -1), oracle.comes(a, b, -1));
            case 13 -> due("answer" + abc, desk.answer(a, b, c - 1), oracle.answer(a, b, c - 1));
            case 14 -> due("unlike" + abc, desk.unlike(a, b), oracle.unlike(a, b));
            case 15 -> due("most" + abc, desk.most(a, c / 2), oracle.most(a, c / 2));
            case 16 -> due("shop" + abc, desk.shop(a, c / 2), oracle.shop(a, c / 2));
            case 17 -> due("tally" + abc, desk.tally(c), oracle.tally(c));
            case 18 -> due("stands" + abc, desk.stands(c, a), oracle.stands(c, a));
            case 19 -> due("where" + abc, desk.where(c), oracle.where(c));
            case 20 -> due("limps" + abc, desk.limps(), oracle.limps());
            case 21 -> due("best" + abc, desk.best(c, a / 2), oracle.best(c, a / 2));
            case 22 -> fewest(c, abc);
            case 23, 24 -> due("tie" + abc, desk.tie(c, a), oracle.tie(c, a));
            case 25 -> due("think" + abc, desk.think(a, c), oracle.think(a, c));
            case 26, 27 -> due("point" + abc, bit(desk.point(a, b, c - 1, w)), bit(oracle.point(a, b, c - 1, w)));
            case 28 -> due("say" + abc, desk.say(a, b, c), oracle.say(a, b, c));
            case 29 -> due("join" + abc, desk.join(a, b), oracle.join(a, b));
            case 30 -> due("cut" + abc, desk.cut(a), oracle.cut(a));
            case 31 -> due("mirror" + abc, bit(desk.mirror(a, b)), bit(oracle.mirror(a, b)));
            case 32, 33 -> undoSome(most);
            case 34 -> due("keep" + abc, bit(desk.keep(c / 2, w)), bit(oracle.keep(c / 2, w)));
            default -> due("count" + abc, desk.count(a + c), oracle.count(a + c));
        }
    }

    /** The Oracle looks at up to 7776 ways: not at every chance. */
    private void fewest(int deed, String abc) {
        if (chance.nextInt(4) == 0) {
            due("fewest" + abc, desk.fewest(deed), oracle.fewest(deed));
        }
    }

    private void undoSome(int most) {
        int times = chance.nextInt(12) == 0 ? 14 : 1 + chance.nextInt(2);
        for (int i = 0; i < Math.min(times, most); i++) {
            due("undo", desk.undo(), oracle.undo());
        }
    }
}
