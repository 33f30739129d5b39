import java.util.ArrayDeque;
import java.util.ArrayList;
import java.util.Deque;
import java.util.HashMap;
import java.util.HashSet;
import java.util.List;
import java.util.Map;
import java.util.NoSuchElementException;
import java.util.Set;
import java.util.TreeSet;

/** The document once more, word by word and with the Java library, to hold the class against. */
final class Oracle {
    private static final Set<String> KEYWORDS =
            Set.of("land", "issue", "fact", "rule", "law", "deed", "whole", "inner");

    private record Token(String text, int place) {
    }

    private record Rule(int fact, boolean whole) {
    }

    private record Pair(int land, int issue) {
    }

    private static final class Fault extends RuntimeException {
        private static final long serialVersionUID = 1;
        final int place;
        final int kind;

        Fault(int place, int kind) {
            this.place = place;
            this.kind = kind;
        }
    }

    private static final class State {
        List<Integer> theories = new ArrayList<>();
        List<Integer> facts = new ArrayList<>();
        List<Integer> heads = new ArrayList<>();
        List<Set<Integer>> deeds = new ArrayList<>();
        Map<Pair, Rule> rules = new HashMap<>();
        Map<Pair, Integer> laws = new HashMap<>();

        State copy() {
            State s = new State();
            s.theories.addAll(theories);
            s.facts.addAll(facts);
            s.heads.addAll(heads);
            s.deeds.addAll(deeds);
            s.rules.putAll(rules);
            s.laws.putAll(laws);
            return s;
        }
    }

    private State s = new State();
    private final List<Integer> tape = new ArrayList<>();
    private final Deque<State> undo = new ArrayDeque<>();
    private final State[] keeps = new State[2];

    // ---- the tape and the text

    int feed(int a, int b, int c, int d, int e) {
        if (tape.size() + 20 > 700) {
            return -1;
        }
        for (int number : new int[] {a, b, c, d, e}) {
            tape.add(number >>> 24);
            tape.add(number >>> 16 & 255);
            tape.add(number >>> 8 & 255);
            tape.add(number & 255);
        }
        return tape.size();
    }

    int desk(int n) {
        if (n < 0 || n > tape.size()) {
            return -1;
        }
        StringBuilder text = new StringBuilder();
        for (int b : tape.subList(0, n)) {
            text.append((char) b);
        }
        tape.clear();
        try {
            State fresh = new State();
            int lines = parse(text.toString(), fresh);
            s = fresh;
            undo.clear();
            keeps[0] = null;
            keeps[1] = null;
            return lines;
        } catch (Fault f) {
            return -2 - (8 * f.place + f.kind);
        }
    }

    private static List<Token> tokens(String text) {
        List<Token> all = new ArrayList<>();
        java.util.regex.Matcher m = java.util.regex.Pattern.compile("[a-z]+|[0-9]+|[^ \n]", java.util.regex.Pattern.DOTALL)
                .matcher(text);
        while (m.find()) {
            all.add(new Token(m.group(), m.start()));
        }
        all.add(new Token("", text.length()));
        return all;
    }

    private static boolean isName(Token t) {
        return t.text.matches("[a-z]{1,6}") && !KEYWORDS.contains(t.text);
    }

    private static int known(Token t, String sort, Map<String, String> names) {
        if (!isName(t)) {
            throw new Fault(t.place, 1);
        }
        String is = names.get(t.text);
        if (is == null || !is.startsWith(sort)) {
            throw new Fault(t.place, 3);
        }
        return Integer.parseInt(is.substring(sort.length()));
    }

    private static void give(Token t, String sort, int number, Map<String, String> names) {
        if (!isName(t)) {
            throw new Fault(t.place, 1);
        }
        if (names.putIfAbsent(t.text, sort + number) != null) {
            throw new Fault(t.place, 2);
        }
    }

    private static int number(Token t, int most) {
        if (!t.text.matches("[0-9]{1,2}")) {
            throw new Fault(t.place, 1);
        }
        int v = Integer.parseInt(t.text);
        if (v > most) {
            throw new Fault(t.place, 4);
        }
        return v;
    }

    private static void limit(Token t, int have, int most) {
        if (have == most) {
            throw new Fault(t.place, 5);
        }
    }

    private static int parse(String text, State to) {
        List<Token> all = tokens(text);
        Map<String, String> names = new HashMap<>();
        int at = 0;
        int lines = 0;
        while (!all.get(at).text.isEmpty()) {
            Token first = all.get(at++);
            switch (first.text) {
                case "land" -> {
                    limit(first, to.theories.size(), 6);
                    give(all.get(at++), "LAND", to.theories.size(), names);
                    to.theories.add(number(all.get(at++), 4));
                }
                case "issue" -> {
                    limit(first, to.heads.size(), 6);
                    give(all.get(at++), "ISSUE", to.heads.size(), names);
                    to.heads.add(to.heads.size());
                }
                case "fact" -> {
                    limit(first, to.facts.size(), 5);
                    give(all.get(at++), "FACT", to.facts.size(), names);
                    to.facts.add(known(all.get(at++), "LAND", names));
                }
                case "deed" -> {
                    limit(first, to.deeds.size(), 5);
                    give(all.get(at++), "DEED", to.deeds.size(), names);
                    Set<Integer> issues = new TreeSet<>();
                    do {
                        int issue = known(all.get(at), "ISSUE", names);
                        if (!issues.add(issue)) {
                            throw new Fault(all.get(at).place, 2);
                        }
                        at++;
                    } while (!all.get(at).text.equals(";"));
                    to.deeds.add(issues);
                }
                case "rule" -> {
                    int land = known(all.get(at++), "LAND", names);
                    Pair p = new Pair(land, known(all.get(at), "ISSUE", names));
                    if (to.rules.containsKey(p)) {
                        throw new Fault(all.get(at).place, 2);
                    }
                    at++;
                    int fact = known(all.get(at++), "FACT", names);
                    Token way = all.get(at++);
                    if (!way.text.equals("whole") && !way.text.equals("inner")) {
                        throw new Fault(way.place, 1);
                    }
                    to.rules.put(p, new Rule(fact, way.text.equals("whole")));
                }
                case "law" -> {
                    int land = known(all.get(at++), "LAND", names);
                    Pair p = new Pair(land, known(all.get(at), "ISSUE", names));
                    if (to.laws.containsKey(p)) {
                        throw new Fault(all.get(at).place, 2);
                    }
                    at++;
                    to.laws.put(p, number(all.get(at++), 99));
                }
                default -> throw new Fault(first.place, 1);
            }
            if (!all.get(at).text.equals(";")) {
                throw new Fault(all.get(at).place, 1);
            }
            at++;
            lines++;
        }
        return lines;
    }

    // ---- what is told

    private boolean isLand(int land) {
        return land >= 0 && land < s.theories.size();
    }

    private boolean isIssue(int issue) {
        return issue >= 0 && issue < s.heads.size();
    }

    private boolean isFact(int fact) {
        return fact >= 0 && fact < s.facts.size();
    }

    private boolean isDeed(int deed) {
        return deed >= 0 && deed < s.deeds.size();
    }

    private static Rule ruleOf(State t, int land, int issue) {
        return t.rules.get(new Pair(land, t.heads.get(issue)));
    }

    private static int target(State t, int land, int issue) {
        Rule r = ruleOf(t, land, issue);
        return r == null ? land : t.facts.get(r.fact);
    }

    int land(int land, int what) {
        if (!isLand(land) || what < 0 || what > 2) {
            return -1;
        }
        int told = 0;
        int bits = 0;
        for (int issue = 0; issue < s.heads.size(); issue++) {
            told += s.rules.containsKey(new Pair(land, issue)) ? 1 : 0;
            bits |= ruleOf(s, land, issue) != null ? 1 << issue : 0;
        }
        return what == 0 ? s.theories.get(land) : what == 1 ? told : bits;
    }

    int fact(int fact) {
        return isFact(fact) ? s.facts.get(fact) : -1;
    }

    int rule(int land, int issue, int what) {
        if (!isLand(land) || !isIssue(issue) || what < 0 || what > 2) {
            throw new NoSuchElementException();
        }
        Rule r = ruleOf(s, land, issue);
        if (r == null) {
            return -2;
        }
        return what == 0 ? r.fact : what == 1 ? (r.whole ? 1 : 0) : s.facts.get(r.fact);
    }

    int inner(int land, int issue) {
        return isLand(land) && isIssue(issue) ? s.laws.getOrDefault(new Pair(land, issue), 0) : -1;
    }

    int head(int issue) {
        return isIssue(issue) ? s.heads.get(issue) : -1;
    }

    int deed(int deed) {
        return isDeed(deed) ? bits(s.deeds.get(deed)) : -1;
    }

    private static int bits(Iterable<Integer> numbers) {
        int bits = 0;
        for (int number : numbers) {
            bits |= 1 << number;
        }
        return bits;
    }

    // ---- roads

    private record Road(List<Integer> lands, int how, int at) {
    }

    private static Road roadOf(State t, int land, int issue) {
        List<Integer> lands = new ArrayList<>(List.of(land));
        while (true) {
            int here = lands.get(lands.size() - 1);
            Rule r = ruleOf(t, here, issue);
            if (r == null) {
                return new Road(lands, 0, here);
            }
            int there = t.facts.get(r.fact);
            if (there == here) {
                return new Road(lands, 1, here);
            }
            if (!r.whole) {
                lands.add(there);
                return new Road(lands, 2, there);
            }
            if (lands.contains(there)) {
                return new Road(lands, 3, there);
            }
            lands.add(there);
        }
    }

    int road(int land, int issue, int k) {
        if (!isLand(land) || !isIssue(issue)) {
            return -2;
        }
        List<Integer> lands = roadOf(s, land, issue).lands;
        return k == -1 ? lands.size() : k >= 0 && k < lands.size() ? lands.get(k) : -2;
    }

    int ends(int land, int issue, int what) {
        if (!isLand(land) || !isIssue(issue) || what < 0 || what > 1) {
            return -1;
        }
        Road r = roadOf(s, land, issue);
        return what == 0 ? r.how : r.at;
    }

    int trapped(int issue) {
        if (!isIssue(issue)) {
            return -1;
        }
        Set<Integer> lands = new HashSet<>();
        for (int land = 0; land < s.theories.size(); land++) {
            if (roadOf(s, land, issue).how == 3) {
                lands.add(land);
            }
        }
        return bits(lands);
    }

    int loop(int issue, int k) {
        if (!isIssue(issue)) {
            return -2;
        }
        TreeSet<Integer> loops = new TreeSet<>();
        for (int land = 0; land < s.theories.size(); land++) {
            Road r = roadOf(s, land, issue);
            if (r.how == 3) {
                loops.add(bits(r.lands.subList(r.lands.indexOf(r.at), r.lands.size())));
            }
        }
        return k == -1 ? loops.size() : k >= 0 && k < loops.size() ? new ArrayList<>(loops).get(k) : -2;
    }

    // ---- theories

    private static int comesTo(State t, int land, int issue, int theory, Set<Integer> askedAhead) {
        Rule r = ruleOf(t, land, issue);
        int there = target(t, land, issue);
        Road road = roadOf(t, land, issue);
        switch (theory) {
            case 0:
                return there;
            case 1:
                if (r != null && r.whole) {
                    int further = target(t, there, issue);
                    if (further != there) {
                        return further;
                    }
                }
                return there;
            case 2:
                return road.at;
            case 3:
                if (r == null || there == land || !r.whole) {
                    return there;
                }
                Set<Integer> asked = new HashSet<>(askedAhead);
                asked.add(land);
                return asked.contains(there) ? there : comesTo(t, there, issue, t.theories.get(there), asked);
            default:
                return road.how == 3 ? land : road.at;
        }
    }

    private static int own(State t, int land, int issue) {
        return comesTo(t, land, issue, t.theories.get(land), Set.of());
    }

    private static int ownAnswer(State t, int land, int issue) {
        return t.laws.getOrDefault(new Pair(own(t, land, issue), issue), 0);
    }

    int comes(int land, int issue, int theory) {
        if (!isLand(land) || !isIssue(issue) || theory < -1 || theory > 4) {
            return -2;
        }
        return theory == -1 ? own(s, land, issue) : comesTo(s, land, issue, theory, Set.of());
    }

    int answer(int land, int issue, int theory) {
        int to = comes(land, issue, theory);
        return to == -2 ? -2 : inner(to, issue);
    }

    int unlike(int land, int issue) {
        if (!isLand(land) || !isIssue(issue)) {
            return -1;
        }
        int bits = 0;
        for (int theory = 0; theory <= 4; theory++) {
            bits |= comes(land, issue, theory) != comes(land, issue, 2) ? 1 << theory : 0;
        }
        return bits;
    }

    int most(int issue, int what) {
        if (!isIssue(issue) || s.theories.isEmpty() || what < 0 || what > 1) {
            return -1;
        }
        int[] come = new int[s.theories.size()];
        for (int land = 0; land < come.length; land++) {
            come[own(s, land, issue)]++;
        }
        int first = 0;
        for (int land = 0; land < come.length; land++) {
            first = come[land] > come[first] ? land : first;
        }
        return what == 0 ? first : come[first];
    }

    int shop(int issue, int what) {
        if (!isIssue(issue) || s.theories.isEmpty() || what < 0 || what > 1) {
            return -1;
        }
        int first = 0;
        for (int land = 0; land < s.theories.size(); land++) {
            first = ownAnswer(s, land, issue) > ownAnswer(s, first, issue) ? land : first;
        }
        return what == 0 ? ownAnswer(s, first, issue) : first;
    }

    long tally(int v) {
        if (v < 0 || v > 99) {
            return -1;
        }
        long n = 0;
        for (int land = 0; land < s.theories.size(); land++) {
            for (int issue = 0; issue < s.heads.size(); issue++) {
                n += ownAnswer(s, land, issue) == v ? 1 : 0;
            }
        }
        return n;
    }

    // ---- deeds

    private static boolean standsIn(State t, int deed, int land) {
        for (int issue : t.deeds.get(deed)) {
            if (ownAnswer(t, land, issue) <= 0) {
                return false;
            }
        }
        return true;
    }

    private static List<Integer> whereIn(State t, int deed) {
        List<Integer> lands = new ArrayList<>();
        for (int land = 0; land < t.theories.size(); land++) {
            if (standsIn(t, deed, land)) {
                lands.add(land);
            }
        }
        return lands;
    }

    int stands(int deed, int land) {
        return !isDeed(deed) || !isLand(land) ? -1 : standsIn(s, deed, land) ? 1 : 0;
    }

    int where(int deed) {
        return isDeed(deed) ? bits(whereIn(s, deed)) : -1;
    }

    int limps() {
        Set<Integer> limping = new HashSet<>();
        for (int deed = 0; deed < s.deeds.size(); deed++) {
            int stands = whereIn(s, deed).size();
            if (stands > 0 && stands < s.theories.size()) {
                limping.add(deed);
            }
        }
        return bits(limping);
    }

    int best(int deed, int what) {
        if (!isDeed(deed) || what < 0 || what > 2 || s.facts.isEmpty() || s.theories.size() < 2) {
            return -1;
        }
        int[] best = null;
        for (int fact = 0; fact < s.facts.size(); fact++) {
            for (int land = 0; land < s.theories.size(); land++) {
                if (land != s.facts.get(fact)) {
                    State t = s.copy();
                    t.facts.set(fact, land);
                    int stands = whereIn(t, deed).size();
                    if (best == null || stands > best[2]) {
                        best = new int[] {fact, land, stands};
                    }
                }
            }
        }
        return best[what];
    }

    /** Every way in which all FACTS may tell LANDS is looked at, the nearest one that serves is taken. */
    int fewest(int deed) {
        if (!isDeed(deed)) {
            return -1;
        }
        int lands = s.theories.size();
        int ways = 1;
        for (int i = 0; i < s.facts.size(); i++) {
            ways *= lands;
        }
        int fewest = 3;
        for (int way = 0; way < ways; way++) {
            State t = s.copy();
            int changed = 0;
            int rest = way;
            for (int fact = 0; fact < s.facts.size(); fact++) {
                t.facts.set(fact, rest % lands);
                changed += rest % lands != s.facts.get(fact) ? 1 : 0;
                rest /= lands;
            }
            if (changed < fewest && whereIn(t, deed).size() == lands) {
                fewest = changed;
            }
        }
        return fewest == 3 ? -2 : fewest;
    }

    // ---- acts

    private void act() {
        undo.addLast(s.copy());
        if (undo.size() > 12) {
            undo.removeFirst();
        }
    }

    int tie(int fact, int land) {
        if (!isFact(fact) || !isLand(land)) {
            return -1;
        }
        act();
        return s.facts.set(fact, land);
    }

    int think(int land, int theory) {
        if (!isLand(land) || theory < 0 || theory > 4) {
            return -1;
        }
        act();
        return s.theories.set(land, theory);
    }

    boolean point(int land, int issue, int fact, boolean whole) {
        if (!isLand(land) || !isIssue(issue) || fact != -1 && !isFact(fact)) {
            return false;
        }
        act();
        if (fact == -1) {
            s.rules.remove(new Pair(land, issue));
        } else {
            s.rules.put(new Pair(land, issue), new Rule(fact, whole));
        }
        return true;
    }

    int say(int land, int issue, int v) {
        if (!isLand(land) || !isIssue(issue) || v < 0 || v > 99) {
            return -1;
        }
        act();
        Integer old = s.laws.put(new Pair(land, issue), v);
        return old == null ? 0 : old;
    }

    private List<Integer> under(int head) {
        List<Integer> issues = new ArrayList<>();
        for (int issue = 0; issue < s.heads.size(); issue++) {
            if (s.heads.get(issue) == head) {
                issues.add(issue);
            }
        }
        return issues;
    }

    int join(int issue, int other) {
        if (!isIssue(issue) || !isIssue(other) || s.heads.get(issue).equals(s.heads.get(other))) {
            return -1;
        }
        act();
        for (int each : under(s.heads.get(issue))) {
            s.heads.set(each, s.heads.get(other));
        }
        return under(s.heads.get(other)).size();
    }

    int cut(int issue) {
        if (!isIssue(issue)) {
            return -1;
        }
        List<Integer> all = under(s.heads.get(issue));
        if (all.size() == 1) {
            return -1;
        }
        act();
        List<Integer> others = new ArrayList<>(all);
        others.remove((Integer) issue);
        if (s.heads.get(issue) == issue) {
            for (int each : others) {
                s.heads.set(each, others.get(0));
            }
        }
        s.heads.set(issue, issue);
        return all.size();
    }

    boolean mirror(int land, int other) {
        if (!isLand(land) || !isLand(other) || land == other) {
            return false;
        }
        act();
        State old = s;
        s = old.copy();
        s.rules.clear();
        s.laws.clear();
        s.theories.set(land, old.theories.get(other));
        s.theories.set(other, old.theories.get(land));
        s.facts.replaceAll(l -> swapped(l, land, other));
        old.rules.forEach((p, r) -> s.rules.put(new Pair(swapped(p.land, land, other), p.issue), r));
        old.laws.forEach((p, v) -> s.laws.put(new Pair(swapped(p.land, land, other), p.issue), v));
        return true;
    }

    private static int swapped(int l, int land, int other) {
        return l == land ? other : l == other ? land : l;
    }

    int undo() {
        if (undo.isEmpty()) {
            return -1;
        }
        s = undo.removeLast();
        return undo.size();
    }

    boolean keep(int k, boolean back) {
        if (k < 0 || k > 1 || back && keeps[k] == null) {
            return false;
        }
        if (back) {
            s = keeps[k].copy();
            undo.clear();
        } else {
            keeps[k] = s.copy();
        }
        return true;
    }

    int count(int what) {
        return switch (what) {
            case 0 -> s.theories.size();
            case 1 -> s.heads.size();
            case 2 -> s.facts.size();
            case 3 -> s.deeds.size();
            case 4 -> s.rules.size();
            case 5 -> undo.size();
            case 6 -> tape.size();
            case 7 -> new HashSet<>(s.heads).size();
            default -> -1;
        };
    }
}
