import java.util.Arrays;
import java.util.NoSuchElementException;

/**
 * Renvoi desk: choice-of-law rules of lands that point on and back, issues cut apart,
 * loops stopped by told theories.
 */
public final class RenvoiDesk {
    public static final int NONE = -1;

    /** What a call answers where NONE already means something, or nothing is there. */
    private static final int NOTHING = -2;

    private static final int MAX_LANDS = 6;
    private static final int MAX_ISSUES = 6;
    private static final int MAX_FACTS = 5;
    private static final int MAX_DEEDS = 5;
    private static final int MAX_NAMES = MAX_LANDS + MAX_ISSUES + MAX_FACTS + MAX_DEEDS;
    private static final int THEORIES = 5;
    private static final int MAX_ANSWER = 99;
    private static final int FED_BYTES = 20;

    private final Tape tape;
    private final Reader reader;
    private final Roads roads;
    private final Deeds deeds;
    private final Past past;
    private Told told;

    public RenvoiDesk() {
        reader = new Reader();
        tape = reader.tape;
        roads = new Roads();
        deeds = new Deeds();
        past = new Past();
        told = new Told();
    }

    // ---- the tape and what is told

    public int feed(int a, int b, int c, int d, int e) {
        if (!tape.hasRoom(FED_BYTES)) {
            return NONE;
        }
        tape.add(a);
        tape.add(b);
        tape.add(c);
        tape.add(d);
        tape.add(e);
        return tape.length;
    }

    public int desk(int n) {
        if (n < 0 || n > tape.length) {
            return NONE;
        }
        int lines = reader.read(n);
        tape.length = 0;
        if (lines >= 0) {
            Told old = told;
            told = reader.draft;
            reader.draft = old;
            past.forget();
        }
        return lines;
    }

    public int land(int land, int what) {
        if (!told.hasLand(land)) {
            return NONE;
        }
        switch (what) {
            case 0: return told.theoryOf(land);
            case 1: return told.rulesOf(land);
            case 2: return told.ruledIssues(land);
            default: return NONE;
        }
    }

    public int fact(int fact) {
        return told.landOf(fact);
    }

    public int rule(int land, int issue, int what) throws NoSuchElementException {
        if (!told.hasBoth(land, issue) || what < 0 || what > 2) {
            throw new NoSuchElementException("no such land, issue or question");
        }
        int rule = told.ruleOn(land, told.headOf(issue));
        if (rule == NONE) {
            return NOTHING;
        }
        switch (what) {
            case 0: return Told.factIn(rule);
            case 1: return Told.isWhole(rule) ? 1 : 0;
            default: return told.landOf(Told.factIn(rule));
        }
    }

    public int inner(int land, int issue) {
        return told.lawOn(land, issue);
    }

    public int head(int issue) {
        return told.headOf(issue);
    }

    public int deed(int deed) {
        return told.issuesOf(deed);
    }

    // ---- roads

    public int road(int land, int issue, int k) {
        if (!told.hasBoth(land, issue)) {
            return NOTHING;
        }
        roads.lookAt(told, issue);
        roads.walk(land);
        return k == NONE ? roads.length : roads.stepAt(k);
    }

    public int ends(int land, int issue, int what) {
        if (!told.hasBoth(land, issue)) {
            return NONE;
        }
        roads.lookAt(told, issue);
        roads.walk(land);
        switch (what) {
            case 0: return roads.how;
            case 1: return roads.end;
            default: return NONE;
        }
    }

    public int trapped(int issue) {
        if (!told.hasIssue(issue)) {
            return NONE;
        }
        roads.lookAt(told, issue);
        int trapped = 0;
        for (int land = 0; land < told.lands; land++) {
            roads.walk(land);
            if (roads.how == Roads.IN_A_LOOP) {
                trapped |= 1 << land;
            }
        }
        return trapped;
    }

    public int loop(int issue, int k) {
        if (!told.hasIssue(issue)) {
            return NOTHING;
        }
        roads.lookAt(told, issue);
        long loops = roads.loopSets();
        if (k == NONE) {
            return Long.bitCount(loops);
        }
        return k < 0 ? NOTHING : placeOfBit(loops, k);
    }

    private static int placeOfBit(long bits, int k) {
        int ahead = 0;
        for (int place = 0; place < 64; place++) {
            if ((bits >> place & 1L) == 1L) {
                if (ahead == k) {
                    return place;
                }
                ahead++;
            }
        }
        return NOTHING;
    }

    // ---- theories

    public int comes(int land, int issue, int theory) {
        if (!told.hasBoth(land, issue) || !isTheoryOrOwn(theory)) {
            return NOTHING;
        }
        roads.lookAt(told, issue);
        return theory == NONE ? roads.ownLand(land) : roads.comesTo(land, theory);
    }

    public int answer(int land, int issue, int theory) {
        if (!told.hasBoth(land, issue) || !isTheoryOrOwn(theory)) {
            return NOTHING;
        }
        roads.lookAt(told, issue);
        return theory == NONE ? roads.ownAnswer(land) : told.lawOn(roads.comesTo(land, theory), issue);
    }

    private static boolean isTheoryOrOwn(int theory) {
        return theory == NONE || isTheory(theory);
    }

    private static boolean isTheory(int theory) {
        return theory >= 0 && theory < THEORIES;
    }

    public int unlike(int land, int issue) {
        if (!told.hasBoth(land, issue)) {
            return NONE;
        }
        roads.lookAt(told, issue);
        int measure = roads.comesTo(land, Roads.TO_THE_END);
        int unlike = 0;
        for (int theory = 0; theory < THEORIES; theory++) {
            if (roads.comesTo(land, theory) != measure) {
                unlike |= 1 << theory;
            }
        }
        return unlike;
    }

    public int most(int issue, int what) {
        if (!told.hasIssue(issue)) {
            return NONE;
        }
        roads.lookAt(told, issue);
        int first = NONE;
        int most = NONE;
        for (int land = 0; land < told.lands; land++) {
            int followers = roads.followersOf(land);
            if (followers > most) {
                most = followers;
                first = land;
            }
        }
        return firstOrSecond(what, first, most);
    }

    public int shop(int issue, int what) {
        if (!told.hasIssue(issue)) {
            return NONE;
        }
        roads.lookAt(told, issue);
        int first = NONE;
        int greatest = NONE;
        for (int land = 0; land < told.lands; land++) {
            int answer = roads.ownAnswer(land);
            if (answer > greatest) {
                greatest = answer;
                first = land;
            }
        }
        return firstOrSecond(what, greatest, first);
    }

    private static int firstOrSecond(int what, int first, int second) {
        switch (what) {
            case 0: return first;
            case 1: return second;
            default: return NONE;
        }
    }

    public long tally(int v) {
        if (v < 0 || v > MAX_ANSWER) {
            return NONE;
        }
        long often = 0;
        for (int issue = 0; issue < told.issues; issue++) {
            roads.lookAt(told, issue);
            for (int land = 0; land < told.lands; land++) {
                if (roads.ownAnswer(land) == v) {
                    often++;
                }
            }
        }
        return often;
    }

    // ---- deeds

    public int stands(int deed, int land) {
        if (!told.hasDeed(deed) || !told.hasLand(land)) {
            return NONE;
        }
        return deeds.standing(told, deed) >> land & 1;
    }

    public int where(int deed) {
        return told.hasDeed(deed) ? deeds.standing(told, deed) : NONE;
    }

    public int limps() {
        int limping = 0;
        for (int deed = 0; deed < told.deeds; deed++) {
            int standing = deeds.standing(told, deed);
            if (standing != 0 && standing != told.allLands()) {
                limping |= 1 << deed;
            }
        }
        return limping;
    }

    public int best(int deed, int what) {
        return told.hasDeed(deed) ? deeds.bestChange(told, deed, what) : NONE;
    }

    public int fewest(int deed) {
        if (!told.hasDeed(deed)) {
            return NONE;
        }
        if (deeds.standsInAll(told, deed)) {
            return 0;
        }
        deeds.startTrial(told);
        if (deeds.canByOne(deed, 0)) {
            return 1;
        }
        return deeds.canByTwo(deed) ? 2 : NOTHING;
    }

    // ---- acts

    public int tie(int fact, int land) {
        if (!told.hasFact(fact) || !told.hasLand(land)) {
            return NONE;
        }
        past.remember(told);
        int old = told.landOf(fact);
        told.setLandOf(fact, land);
        return old;
    }

    public int think(int land, int theory) {
        if (!told.hasLand(land) || !isTheory(theory)) {
            return NONE;
        }
        past.remember(told);
        int old = told.theoryOf(land);
        told.setTheoryOf(land, theory);
        return old;
    }

    public boolean point(int land, int issue, int fact, boolean whole) {
        if (!told.hasBoth(land, issue) || fact != NONE && !told.hasFact(fact)) {
            return false;
        }
        past.remember(told);
        told.setRuleOn(land, issue, fact, whole);
        return true;
    }

    public int say(int land, int issue, int v) {
        if (!told.hasBoth(land, issue) || v < 0 || v > MAX_ANSWER) {
            return NONE;
        }
        past.remember(told);
        int old = told.lawOn(land, issue);
        told.setLawOn(land, issue, v);
        return old;
    }

    public int join(int issue, int other) {
        if (!told.hasIssue(issue) || !told.hasIssue(other)) {
            return NONE;
        }
        int from = told.headOf(issue);
        int to = told.headOf(other);
        if (from == to) {
            return NONE;
        }
        past.remember(told);
        told.moveHead(from, to);
        return told.issuesUnder(to);
    }

    public int cut(int issue) {
        if (!told.hasIssue(issue)) {
            return NONE;
        }
        int together = told.issuesUnder(told.headOf(issue));
        if (together < 2) {
            return NONE;
        }
        past.remember(told);
        told.partFromOthers(issue);
        return together;
    }

    public boolean mirror(int land, int other) {
        if (!told.hasLand(land) || !told.hasLand(other) || land == other) {
            return false;
        }
        past.remember(told);
        told.exchange(land, other);
        return true;
    }

    public int undo() {
        return past.stepBack(told) ? past.acts : NONE;
    }

    public boolean keep(int k, boolean back) {
        return back ? past.goBack(told, k) : past.lay(told, k);
    }

    public int count(int what) {
        switch (what) {
            case 0: return told.lands;
            case 1: return told.issues;
            case 2: return told.facts;
            case 3: return told.deeds;
            case 4: return told.allRules();
            case 5: return past.acts;
            case 6: return tape.length;
            case 7: return told.unlikeHeads();
            default: return NONE;
        }
    }

    /** THE TAPE, and its TOKENS one after the other. */
    private static final class Tape {
        static final int END = 0;
        static final int WORD = 1;
        static final int NUMBER = 2;
        static final int STOP = 3;
        static final int BROKEN = 4;
        private static final int BLANK = 5;

        private static final int MAX_BYTES = 700;
        private static final int MAX_LETTERS = 6;
        private static final int MAX_DIGITS = 2;

        private final byte[] bytes = new byte[MAX_BYTES];
        int length;
        private int at;
        private int limit;
        /** Of the TOKEN that was read last: which of the kinds above, its first byte, what it says. */
        int token;
        int place;
        int value;

        boolean hasRoom(int more) {
            return length + more <= MAX_BYTES;
        }

        void add(int number) {
            for (int shift = 24; shift >= 0 && length < MAX_BYTES; shift -= 8) {
                bytes[length] = (byte) (number >> shift);
                length++;
            }
        }

        void begin(int n) {
            at = 0;
            limit = Math.max(0, Math.min(n, length));
        }

        void next() {
            while (at < limit && sortOf(bytes[at]) == BLANK) {
                at++;
            }
            place = at;
            value = 0;
            if (at >= limit) {
                token = END;
                return;
            }
            token = sortOf(bytes[at]);
            if (token == WORD) {
                readWord();
            } else if (token == NUMBER) {
                readNumber();
            } else {
                at++;
            }
        }

        private void readWord() {
            while (at < limit && sortOf(bytes[at]) == WORD) {
                value = withLetter(value, bytes[at]);
                at++;
            }
            if (at - place > MAX_LETTERS) {
                token = BROKEN;
            }
        }

        private void readNumber() {
            while (at < limit && sortOf(bytes[at]) == NUMBER) {
                value = value * 10 + bytes[at] - '0';
                at++;
            }
            if (at - place > MAX_DIGITS) {
                token = BROKEN;
            }
        }

        /** Five bits a letter: six letters fit into one int, so a WORD needs no object. */
        static int withLetter(int word, int letter) {
            return word << 5 | letter - 'a' + 1;
        }

        private static int sortOf(int sign) {
            if (sign >= 'a' && sign <= 'z') {
                return WORD;
            }
            if (sign >= '0' && sign <= '9') {
                return NUMBER;
            }
            if (sign == ';') {
                return STOP;
            }
            return sign == ' ' || sign == '\n' ? BLANK : BROKEN;
        }
    }

    /** Reads a TEXT from THE TAPE up to its first FAULT. */
    private static final class Reader {
        private static final int LAND = 0;
        private static final int ISSUE = 1;
        private static final int FACT = 2;
        private static final int DEED = 3;
        private static final int RULE = 4;
        private static final int LAW = 5;
        private static final int WHOLE = 6;
        private static final int INNER = 7;
        private static final int KEYWORDS = 8;

        private static final int NO_TEXT = 1;
        private static final int TWICE = 2;
        private static final int UNKNOWN = 3;
        private static final int BAD_NUMBER = 4;
        private static final int TOO_MANY = 5;

        final Tape tape = new Tape();
        private final int[] keywords = new int[KEYWORDS];
        private final int[] names = new int[MAX_NAMES];
        private final int[] sorts = new int[MAX_NAMES];
        private final int[] numbers = new int[MAX_NAMES];
        private int named;
        /** Answers told, as bits: a law that tells 0 is a law, too, and must not be told twice. */
        private long laws;
        private int fault;
        /** Apart from what is told now, so that a FAULT leaves that alone. */
        Told draft = new Told();

        Reader() {
            keywords[LAND] = wordOf("land");
            keywords[ISSUE] = wordOf("issue");
            keywords[FACT] = wordOf("fact");
            keywords[DEED] = wordOf("deed");
            keywords[RULE] = wordOf("rule");
            keywords[LAW] = wordOf("law");
            keywords[WHOLE] = wordOf("whole");
            keywords[INNER] = wordOf("inner");
        }

        private static int wordOf(String text) {
            int word = 0;
            for (int i = 0; i < text.length(); i++) {
                word = Tape.withLetter(word, text.charAt(i));
            }
            return word;
        }

        /** How many LINES, or what a FAULT is answered with. */
        int read(int n) {
            draft.clear();
            named = 0;
            laws = 0;
            fault = 0;
            tape.begin(n);
            tape.next();
            int lines = 0;
            while (lines < n && tape.token != Tape.END) {
                if (!readLine()) {
                    return NOTHING - fault;
                }
                lines++;
                tape.next();
            }
            return lines;
        }

        private boolean readLine() {
            switch (keyword()) {
                case LAND: return readLand();
                case ISSUE: return readIssue();
                case FACT: return readFact();
                case DEED: return readDeed();
                case RULE: return readRule();
                case LAW: return readLaw();
                default: return wrong(NO_TEXT);
            }
        }

        private boolean readLand() {
            if (draft.lands >= MAX_LANDS) {
                return wrong(TOO_MANY);
            }
            if (!giveName(LAND, draft.lands)) {
                return false;
            }
            int theory = takeNumber(THEORIES - 1);
            if (theory == NONE) {
                return false;
            }
            draft.addLand(theory);
            return takeStop();
        }

        private boolean readIssue() {
            if (draft.issues >= MAX_ISSUES) {
                return wrong(TOO_MANY);
            }
            if (!giveName(ISSUE, draft.issues)) {
                return false;
            }
            draft.addIssue();
            return takeStop();
        }

        private boolean readFact() {
            if (draft.facts >= MAX_FACTS) {
                return wrong(TOO_MANY);
            }
            if (!giveName(FACT, draft.facts)) {
                return false;
            }
            tape.next();
            int land = numberOf(LAND);
            if (land == NONE) {
                return false;
            }
            draft.addFact(land);
            return takeStop();
        }

        private boolean readDeed() {
            if (draft.deeds >= MAX_DEEDS) {
                return wrong(TOO_MANY);
            }
            if (!giveName(DEED, draft.deeds)) {
                return false;
            }
            int issues = 0;
            tape.next();
            for (int i = 0; i <= MAX_ISSUES && (issues == 0 || tape.token != Tape.STOP); i++) {
                int issue = numberOf(ISSUE);
                if (issue == NONE) {
                    return false;
                }
                if ((issues >> issue & 1) == 1) {
                    return wrong(TWICE);
                }
                issues |= 1 << issue;
                tape.next();
            }
            draft.addDeed(issues);
            return tape.token == Tape.STOP || wrong(NO_TEXT);
        }

        private boolean readRule() {
            tape.next();
            int land = numberOf(LAND);
            if (land == NONE) {
                return false;
            }
            tape.next();
            int issue = numberOf(ISSUE);
            if (issue == NONE) {
                return false;
            }
            if (draft.ruleOn(land, issue) != NONE) {
                return wrong(TWICE);
            }
            tape.next();
            int fact = numberOf(FACT);
            if (fact == NONE) {
                return false;
            }
            tape.next();
            int way = keyword();
            if (way != WHOLE && way != INNER) {
                return wrong(NO_TEXT);
            }
            draft.setRuleOn(land, issue, fact, way == WHOLE);
            return takeStop();
        }

        private boolean readLaw() {
            tape.next();
            int land = numberOf(LAND);
            if (land == NONE) {
                return false;
            }
            tape.next();
            int issue = numberOf(ISSUE);
            if (issue == NONE) {
                return false;
            }
            long bit = 1L << land * MAX_ISSUES + issue;
            if ((laws & bit) != 0) {
                return wrong(TWICE);
            }
            int answer = takeNumber(MAX_ANSWER);
            if (answer == NONE) {
                return false;
            }
            laws |= bit;
            draft.setLawOn(land, issue, answer);
            return takeStop();
        }

        private boolean giveName(int sort, int number) {
            tape.next();
            if (!isName()) {
                return wrong(NO_TEXT);
            }
            if (find(tape.value) != NONE) {
                return wrong(TWICE);
            }
            if (named < MAX_NAMES) {
                names[named] = tape.value;
                sorts[named] = sort;
                numbers[named] = number;
                named++;
            }
            return true;
        }

        /** The number of what the NAME read last stands for; NONE, and a FAULT, if that is not of the sort. */
        private int numberOf(int sort) {
            if (!isName()) {
                wrong(NO_TEXT);
                return NONE;
            }
            int i = find(tape.value);
            if (i < 0 || i >= MAX_NAMES || sorts[i] != sort) {
                wrong(UNKNOWN);
                return NONE;
            }
            return numbers[i];
        }

        private int takeNumber(int greatest) {
            tape.next();
            if (tape.token != Tape.NUMBER) {
                wrong(NO_TEXT);
                return NONE;
            }
            if (tape.value > greatest) {
                wrong(BAD_NUMBER);
                return NONE;
            }
            return tape.value;
        }

        private boolean takeStop() {
            tape.next();
            return tape.token == Tape.STOP || wrong(NO_TEXT);
        }

        private boolean isName() {
            return tape.token == Tape.WORD && keyword() == NONE;
        }

        private int keyword() {
            if (tape.token == Tape.WORD) {
                for (int i = 0; i < KEYWORDS; i++) {
                    if (keywords[i] == tape.value) {
                        return i;
                    }
                }
            }
            return NONE;
        }

        private int find(int name) {
            for (int i = 0; i < named && i < MAX_NAMES; i++) {
                if (names[i] == name) {
                    return i;
                }
            }
            return NONE;
        }

        private boolean wrong(int kind) {
            fault = 8 * tape.place + kind;
            return false;
        }
    }

    /** All that is told but THE TAPE. Every question about none such is answered with NONE. */
    private static final class Told {
        private static final int THEORY = 0;
        private static final int FACT = THEORY + MAX_LANDS;
        private static final int HEAD = FACT + MAX_FACTS;
        private static final int RULE = HEAD + MAX_ISSUES;
        private static final int LAW = RULE + MAX_LANDS * MAX_ISSUES;
        /** How many cells ACTS can change: these alone have to be remembered. */
        static final int CELLS = LAW + MAX_LANDS * MAX_ISSUES;

        private final int[] cells = new int[CELLS];
        private final int[] needs = new int[MAX_DEEDS];
        int lands;
        int issues;
        int facts;
        int deeds;

        void clear() {
            Arrays.fill(cells, 0);
            Arrays.fill(needs, 0);
            lands = 0;
            issues = 0;
            facts = 0;
            deeds = 0;
        }

        void copyFrom(Told other) {
            System.arraycopy(other.cells, 0, cells, 0, CELLS);
            System.arraycopy(other.needs, 0, needs, 0, MAX_DEEDS);
            lands = other.lands;
            issues = other.issues;
            facts = other.facts;
            deeds = other.deeds;
        }

        void save(int[] rows, int row) {
            if (row >= 0 && (row + 1) * CELLS <= rows.length) {
                System.arraycopy(cells, 0, rows, row * CELLS, CELLS);
            }
        }

        void load(int[] rows, int row) {
            if (row >= 0 && (row + 1) * CELLS <= rows.length) {
                System.arraycopy(rows, row * CELLS, cells, 0, CELLS);
            }
        }

        void addLand(int theory) {
            if (lands < MAX_LANDS) {
                cells[THEORY + lands] = theory;
                lands++;
            }
        }

        void addIssue() {
            if (issues < MAX_ISSUES) {
                cells[HEAD + issues] = issues;
                issues++;
            }
        }

        void addFact(int land) {
            if (facts < MAX_FACTS) {
                cells[FACT + facts] = land;
                facts++;
            }
        }

        void addDeed(int itsIssues) {
            if (deeds < MAX_DEEDS) {
                needs[deeds] = itsIssues;
                deeds++;
            }
        }

        boolean hasLand(int land) {
            return land >= 0 && land < lands;
        }

        boolean hasIssue(int issue) {
            return issue >= 0 && issue < issues;
        }

        boolean hasFact(int fact) {
            return fact >= 0 && fact < facts;
        }

        boolean hasDeed(int deed) {
            return deed >= 0 && deed < deeds;
        }

        boolean hasBoth(int land, int issue) {
            return hasLand(land) && hasIssue(issue);
        }

        int allLands() {
            return (1 << lands) - 1;
        }

        int theoryOf(int land) {
            return hasLand(land) ? cells[THEORY + land] : NONE;
        }

        void setTheoryOf(int land, int theory) {
            if (hasLand(land)) {
                cells[THEORY + land] = theory;
            }
        }

        int landOf(int fact) {
            return hasFact(fact) ? cells[FACT + fact] : NONE;
        }

        void setLandOf(int fact, int land) {
            if (hasFact(fact)) {
                cells[FACT + fact] = land;
            }
        }

        int issuesOf(int deed) {
            return hasDeed(deed) ? needs[deed] : NONE;
        }

        int lawOn(int land, int issue) {
            return hasBoth(land, issue) ? cells[LAW + land * MAX_ISSUES + issue] : NONE;
        }

        void setLawOn(int land, int issue, int answer) {
            if (hasBoth(land, issue)) {
                cells[LAW + land * MAX_ISSUES + issue] = answer;
            }
        }

        /** What is told of the ISSUE itself, as one number (factIn, isWhole); its cell has one more, 0 without. */
        int ruleOn(int land, int issue) {
            return hasBoth(land, issue) ? cells[RULE + land * MAX_ISSUES + issue] - 1 : NONE;
        }

        void setRuleOn(int land, int issue, int fact, boolean whole) {
            if (hasBoth(land, issue)) {
                int rule = fact == NONE ? NONE : 2 * fact + (whole ? 1 : 0);
                cells[RULE + land * MAX_ISSUES + issue] = rule + 1;
            }
        }

        static int factIn(int rule) {
            return rule >> 1;
        }

        static boolean isWhole(int rule) {
            return (rule & 1) == 1;
        }

        int rulesOf(int land) {
            int rules = 0;
            for (int issue = 0; issue < issues; issue++) {
                if (ruleOn(land, issue) != NONE) {
                    rules++;
                }
            }
            return rules;
        }

        int allRules() {
            int rules = 0;
            for (int land = 0; land < lands; land++) {
                rules += rulesOf(land);
            }
            return rules;
        }

        int ruledIssues(int land) {
            int ruled = 0;
            for (int issue = 0; issue < issues; issue++) {
                if (ruleOn(land, headOf(issue)) != NONE) {
                    ruled |= 1 << issue;
                }
            }
            return ruled;
        }

        int headOf(int issue) {
            return hasIssue(issue) ? cells[HEAD + issue] : NONE;
        }

        int issuesUnder(int head) {
            int under = 0;
            for (int issue = 0; issue < issues; issue++) {
                if (headOf(issue) == head) {
                    under++;
                }
            }
            return under;
        }

        int unlikeHeads() {
            int heads = 0;
            for (int issue = 0; issue < issues; issue++) {
                if (headOf(issue) == issue) {
                    heads++;
                }
            }
            return heads;
        }

        void moveHead(int from, int to) {
            for (int issue = 0; issue < issues && issue < MAX_ISSUES; issue++) {
                if (cells[HEAD + issue] == from) {
                    cells[HEAD + issue] = to;
                }
            }
        }

        void partFromOthers(int issue) {
            if (!hasIssue(issue)) {
                return;
            }
            if (headOf(issue) == issue) {
                moveHead(issue, firstOther(issue));
            }
            cells[HEAD + issue] = issue;
        }

        private int firstOther(int head) {
            for (int issue = 0; issue < issues; issue++) {
                if (issue != head && headOf(issue) == head) {
                    return issue;
                }
            }
            return head;
        }

        void exchange(int land, int other) {
            if (!hasLand(land) || !hasLand(other)) {
                return;
            }
            swapCells(THEORY + land, THEORY + other);
            for (int issue = 0; issue < MAX_ISSUES; issue++) {
                swapCells(RULE + land * MAX_ISSUES + issue, RULE + other * MAX_ISSUES + issue);
                swapCells(LAW + land * MAX_ISSUES + issue, LAW + other * MAX_ISSUES + issue);
            }
            for (int fact = 0; fact < facts; fact++) {
                int tells = landOf(fact);
                if (tells == land) {
                    setLandOf(fact, other);
                } else if (tells == other) {
                    setLandOf(fact, land);
                }
            }
        }

        private void swapCells(int one, int two) {
            if (one >= 0 && one < CELLS && two >= 0 && two < CELLS) {
                int old = cells[one];
                cells[one] = cells[two];
                cells[two] = old;
            }
        }
    }

    /** The ROADS of all LANDS on the one ISSUE that is looked at, and whose law they come to. */
    private static final class Roads {
        static final int WITHOUT_RULE = 0;
        static final int AT_ITSELF = 1;
        static final int BY_INNER = 2;
        static final int IN_A_LOOP = 3;

        static final int TO_THE_NEXT = 0;
        static final int TO_THE_SECOND = 1;
        static final int TO_THE_END = 2;
        static final int AS_THAT_ONE_THINKS = 3;

        private final int[] next = new int[MAX_LANDS];
        private final int[] theories = new int[MAX_LANDS];
        private final int[] laws = new int[MAX_LANDS];
        /** One more than there are LANDS: an inner RULE may end where the ROAD has been already. */
        private final int[] steps = new int[MAX_LANDS + 1];
        private int lands;
        private int whole;
        int length;
        int how;
        int end;

        void lookAt(Told told, int issue) {
            lands = told.lands;
            whole = 0;
            int head = told.headOf(issue);
            for (int land = 0; land < MAX_LANDS; land++) {
                int rule = told.ruleOn(land, head);
                next[land] = rule == NONE ? NONE : told.landOf(Told.factIn(rule));
                if (rule != NONE && Told.isWhole(rule)) {
                    whole |= 1 << land;
                }
                theories[land] = told.theoryOf(land);
                laws[land] = told.lawOn(land, issue);
            }
        }

        private static int cell(int[] row, int i) {
            return i >= 0 && i < row.length ? row[i] : NONE;
        }

        private boolean goesOn(int land) {
            return (whole >> land & 1) == 1;
        }

        void walk(int from) {
            length = 0;
            how = NONE;
            end = from;
            int been = 0;
            while (how == NONE && length < MAX_LANDS) {
                steps[length] = end;
                length++;
                been |= 1 << end;
                int to = cell(next, end);
                if (to == NONE) {
                    how = WITHOUT_RULE;
                } else if (to == end) {
                    how = AT_ITSELF;
                } else if (!goesOn(end)) {
                    how = BY_INNER;
                    steps[length] = to;
                    length++;
                } else if ((been >> to & 1) == 1) {
                    how = IN_A_LOOP;
                }
                end = to == NONE ? end : to;
            }
        }

        int stepAt(int k) {
            return k >= 0 && k < length ? cell(steps, k) : NOTHING;
        }

        /** The LOOPS as a set: bit b stands for the LOOP whose LANDS are b as bits, which orders them, too. */
        long loopSets() {
            long sets = 0;
            for (int land = 0; land < lands; land++) {
                walk(land);
                if (how == IN_A_LOOP) {
                    sets |= 1L << loopLands();
                }
            }
            return sets;
        }

        private int loopLands() {
            int inLoop = 0;
            for (int k = 0; k < length; k++) {
                int land = cell(steps, k);
                if (inLoop != 0 || land == end) {
                    inLoop |= 1 << land;
                }
            }
            return inLoop;
        }

        int comesTo(int land, int theory) {
            int asked = 0;
            int at = land;
            int by = theory;
            for (int turn = 0; turn < MAX_LANDS && by == AS_THAT_ONE_THINKS; turn++) {
                asked |= 1 << at;
                int to = cell(next, at);
                if (to == NONE || to == at) {
                    return at;
                }
                if (!goesOn(at) || (asked >> to & 1) == 1) {
                    return to;
                }
                at = to;
                by = cell(theories, at);
            }
            if (by == TO_THE_NEXT || by == TO_THE_SECOND) {
                return comesNear(at, by == TO_THE_SECOND && goesOn(at));
            }
            walk(at);
            return how == IN_A_LOOP && by != TO_THE_END ? at : end;
        }

        private int comesNear(int land, boolean toTheSecond) {
            int to = cell(next, land);
            if (to == NONE) {
                return land;
            }
            int second = cell(next, to);
            return toTheSecond && second != NONE ? second : to;
        }

        int ownLand(int land) {
            return comesTo(land, cell(theories, land));
        }

        int ownAnswer(int land) {
            return cell(laws, ownLand(land));
        }

        int followersOf(int land) {
            int followers = 0;
            for (int each = 0; each < lands; each++) {
                if (ownLand(each) == land) {
                    followers++;
                }
            }
            return followers;
        }

        int landsAbove0() {
            int above = 0;
            for (int land = 0; land < lands; land++) {
                int lawgiver = comesTo(land, cell(theories, land));
                if (cell(laws, lawgiver) > 0) {
                    above |= 1 << land;
                }
            }
            return above;
        }
    }

    /** Where DEEDS STAND, and would by other FACTS: these are tried on a copy. */
    private static final class Deeds {
        private final Roads roads = new Roads();
        private final Told trial = new Told();

        int standing(Told told, int deed) {
            int needed = told.issuesOf(deed);
            int lands = told.allLands();
            for (int issue = 0; issue < told.issues && lands != 0; issue++) {
                if ((needed >> issue & 1) == 1) {
                    roads.lookAt(told, issue);
                    lands &= roads.landsAbove0();
                }
            }
            return lands;
        }

        boolean standsInAll(Told told, int deed) {
            int needed = told.issuesOf(deed);
            for (int issue = 0; issue < told.issues; issue++) {
                if ((needed >> issue & 1) == 1) {
                    roads.lookAt(told, issue);
                    if (roads.landsAbove0() != told.allLands()) {
                        return false;
                    }
                }
            }
            return true;
        }

        int bestChange(Told told, int deed, int what) {
            startTrial(told);
            int bestFact = NONE;
            int bestLand = NONE;
            int most = NONE;
            for (int fact = 0; fact < trial.facts; fact++) {
                int own = trial.landOf(fact);
                for (int land = 0; land < trial.lands; land++) {
                    trial.setLandOf(fact, land);
                    int stands = land == own ? NONE : Integer.bitCount(standing(trial, deed));
                    if (stands > most) {
                        most = stands;
                        bestFact = fact;
                        bestLand = land;
                    }
                }
                trial.setLandOf(fact, own);
            }
            switch (what) {
                case 0: return bestFact;
                case 1: return bestLand;
                case 2: return most;
                default: return NONE;
            }
        }

        void startTrial(Told told) {
            trial.copyFrom(told);
        }

        /** Whether one more FACT, from the given one on, is enough in the trial. */
        boolean canByOne(int deed, int firstFact) {
            for (int fact = firstFact; fact < trial.facts; fact++) {
                int own = trial.landOf(fact);
                for (int land = 0; land < trial.lands; land++) {
                    trial.setLandOf(fact, land);
                    if (land != own && standsInAll(trial, deed)) {
                        return true;
                    }
                }
                trial.setLandOf(fact, own);
            }
            return false;
        }

        boolean canByTwo(int deed) {
            for (int fact = 0; fact < trial.facts; fact++) {
                int own = trial.landOf(fact);
                for (int land = 0; land < trial.lands; land++) {
                    trial.setLandOf(fact, land);
                    if (land != own && canByOne(deed, fact + 1)) {
                        return true;
                    }
                }
                trial.setLandOf(fact, own);
            }
            return false;
        }
    }

    /** The ACTS that can be UNDONE, and the KEEPS. */
    private static final class Past {
        private static final int MAX_ACTS = 12;
        private static final int KEEPS = 2;

        /** Rows are filled in turn, so that the oldest ACT is the one that is lost. */
        private final int[] before = new int[MAX_ACTS * Told.CELLS];
        private final int[] kept = new int[KEEPS * Told.CELLS];
        private int nextRow;
        private int laid;
        int acts;

        void forget() {
            acts = 0;
            laid = 0;
        }

        void remember(Told told) {
            told.save(before, nextRow);
            nextRow = nextRow + 1 < MAX_ACTS ? nextRow + 1 : 0;
            acts = Math.min(acts + 1, MAX_ACTS);
        }

        boolean stepBack(Told told) {
            if (acts == 0) {
                return false;
            }
            nextRow = nextRow > 0 ? nextRow - 1 : MAX_ACTS - 1;
            told.load(before, nextRow);
            acts--;
            return true;
        }

        boolean lay(Told told, int k) {
            if (k < 0 || k >= KEEPS) {
                return false;
            }
            told.save(kept, k);
            laid |= 1 << k;
            return true;
        }

        boolean goBack(Told told, int k) {
            if (k < 0 || k >= KEEPS || (laid >> k & 1) == 0) {
                return false;
            }
            told.load(kept, k);
            acts = 0;
            return true;
        }
    }
}
