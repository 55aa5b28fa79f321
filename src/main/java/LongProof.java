import java.util.Arrays;

/**
 * A proof too long to read, told as a text: what of it is right, needed, told twice or alike, in
 * which order and on which pages it is best told, what falls with wrong rules, and how likely its
 * readers are to see a wrong step.
 *
 * <p>All rows are made once, with the object; no call makes anything anew.
 */
public final class LongProof {
    public static final int NONE = -1;

    private static final int IMAGE_BYTES = 4;
    /** All 31 bits of a number that is not below 0: more than anything that is counted here. */
    private static final int HUGE = 0x7fffffff;

    private final Tape tape;
    private final Parser parser;
    private final Facts facts;
    private final Beside pair;
    private final Runs runs;
    private final Orders orders;
    private final Ways ways;
    private final Watch watch;
    private final int[] picture;
    /** The proof that counts, and the one into which the next text is read: a fault leaves the first. */
    private Book book;
    private Book spare;
    private int faultKind;
    private int faultPlace;
    private int wrongRules;
    private long fallen;
    private boolean isPictured;

    public LongProof() {
        tape = new Tape();
        parser = new Parser();
        book = new Book();
        spare = new Book();
        facts = new Facts(book);
        pair = new Beside();
        runs = new Runs();
        orders = new Orders();
        ways = new Ways();
        watch = new Watch();
        picture = new int[IMAGE_BYTES];
        isPictured = false;
        faultKind = 0;
        faultPlace = NONE;
        wrongRules = 0;
        fallen = 0L;
    }

    public int feed(int a, int b, int c, int d, int e) {
        if (!tape.hasRoom()) {
            return NONE;
        }
        tape.add(a);
        tape.add(b);
        tape.add(c);
        tape.add(d);
        tape.add(e);
        return tape.count;
    }

    public boolean end(int n) {
        if (n < 0 || n > tape.count) {
            return false;
        }
        tape.count = n;
        return true;
    }

    public int proof() {
        int statements = parser.parse(tape, spare);
        tape.count = 0;
        faultKind = parser.kind;
        faultPlace = parser.place;
        if (statements == NONE) {
            return NONE;
        }
        Book read = spare;
        spare = book;
        book = read;
        facts.study(read);
        runs.known = false;
        orders.known = false;
        watch.asked = 0;
        setWrong(0);
        return statements;
    }

    public int fault(int what) {
        switch (what) {
            case 0:
                return faultKind;
            case 1:
                return faultPlace;
            default:
                return NONE;
        }
    }

    public int has(int what) {
        switch (what) {
            case 0:
                return book.rules;
            case 1:
                return book.steps;
            case 2:
                return book.readers;
            case 3:
                return book.terms.signs;
            case 4:
                return book.terms.holes;
            case 5:
                return book.goal;
            case 6:
                return Long.bitCount(facts.right);
            case 7:
                return Long.bitCount(facts.needed);
            case 8:
                return Long.bitCount(facts.twice);
            case 9:
                return Long.bitCount(facts.covered);
            case 10:
                return facts.left.count;
            case 11:
                return Integer.bitCount(wrongRules);
            case 12:
                return Long.bitCount(fallen);
            case 13:
                return Integer.bitCount(watch.asked);
            default:
                return NONE;
        }
    }

    public int letter(int kind, int which, int k) {
        if (k < 0 || k >= Tape.LETTERS || which < 0) {
            return NONE;
        }
        switch (kind) {
            case 0:
                return which < book.rules ? letterOf(book.ruleName[which], k) : NONE;
            case 1:
                return which < book.readers ? letterOf(book.readerName[which], k) : NONE;
            case 2:
                return which < book.terms.signs ? letterOf(book.terms.signName[which], k) : NONE;
            case 3:
                return which < book.terms.holes ? letterOf(book.terms.holeName[which], k) : NONE;
            default:
                return NONE;
        }
    }

    public int rule(int rule, int what) {
        if (!book.hasRule(rule)) {
            return NONE;
        }
        switch (what) {
            case 0:
                return book.premises[rule];
            case 1:
                return book.stepsBy(rule);
            case 2:
                return flag((wrongRules >> rule & 1) != 0);
            case 3:
                return Long.bitCount(book.fallenBy(1 << rule));
            default:
                return NONE;
        }
    }

    public int step(int step, int what) {
        if (!book.hasStep(step)) {
            return NONE;
        }
        switch (what) {
            case 0:
                return book.stepRule[step];
            case 1:
                return book.nameCount(step);
            case 2:
                return flag(isIn(step, facts.right));
            case 3:
                return flag(isIn(step, facts.needed));
            case 4:
                return facts.first[step];
            case 5:
                return facts.coverer[step];
            case 6:
                return facts.left.number[step];
            case 7:
                return flag(isIn(step, fallen));
            case 8:
                return Long.bitCount(facts.namers[step]);
            case 9:
                return book.terms.size(book.stepTerm[step]);
            case 10:
                return watch.seen(book, step, watch.asked);
            default:
                return NONE;
        }
    }

    public int names(int step, int k) {
        if (!book.hasStep(step) || k < 0 || k >= book.nameCount(step)) {
            return NONE;
        }
        return book.named(step, k);
    }

    public int term(int step, int k) {
        if (!book.hasStep(step) || k < 0) {
            return NONE;
        }
        int start = book.stepTerm[step];
        return k < book.terms.size(start) ? book.terms.cell[start + k] : NONE;
    }

    public int wrong() {
        return kthOf(book.all() & ~facts.right, 0);
    }

    public int rest(int k) {
        return k >= 0 && k < facts.left.count ? facts.left.stepAt[k] : NONE;
    }

    public int leans(int rest, int k) {
        if (rest < 0 || rest >= facts.left.count || k < 0 || k >= facts.left.leanCount[rest]) {
            return NONE;
        }
        return facts.left.lean[Book.MOST_PARTS * rest + k];
    }

    public int upon(int step, int other) {
        if (!book.hasStep(step) || !book.hasStep(other)) {
            return NONE;
        }
        return flag(isIn(other, facts.below[step]));
    }

    public int depth(int step) {
        return book.hasStep(step) ? facts.deep[step] : NONE;
    }

    public int load(int step) {
        return book.hasStep(step) ? facts.neededUpon(step) : NONE;
    }

    public int covers(int step) {
        return book.hasStep(step) ? facts.covering[step] : NONE;
    }

    public int vital(int step) {
        return book.hasStep(step) ? flag(isIn(step, facts.vitalSteps)) : NONE;
    }

    public int vitals(int k) {
        return kthOf(facts.vitalSteps, k);
    }

    public int beside(int first, int second, int what) {
        if (!book.hasStep(first) || !book.hasStep(second)) {
            return NONE;
        }
        pair.lay(book.terms, book.stepTerm[first], book.stepTerm[second]);
        switch (what) {
            case 0:
                return pair.size;
            case 1:
                return pair.made;
            case 2:
                return pair.unlike;
            default:
                return NONE;
        }
    }

    public int common(int first, int second, int k) {
        if (!book.hasStep(first) || !book.hasStep(second) || k < 0) {
            return NONE;
        }
        pair.lay(book.terms, book.stepTerm[first], book.stepTerm[second]);
        return k < pair.size ? pair.cell[k] : NONE;
    }

    public int run(int first, int n) {
        return Runs.fit(book, first, n) ? flag(runs.isRun(facts, first, n)) : NONE;
    }

    public int alike(int first, int second, int n) {
        if (!Runs.fit(book, first, n) || !Runs.fit(book, second, n) || Runs.meet(first, second, n)) {
            return NONE;
        }
        if (!runs.isRun(facts, first, n) || !runs.isRun(facts, second, n)) {
            return NONE;
        }
        return flag(runs.areAlike(book, first, second, n));
    }

    public int worth(int first, int n) {
        if (!Runs.fit(book, first, n) || !runs.isRun(facts, first, n)) {
            return NONE;
        }
        return runs.isFirstOfItsKind(facts, first, n) ? runs.worthOf(facts, first, n) : NONE;
    }

    public int lemma(int what) {
        runs.findBest(facts);
        if (runs.bestWorth <= 0) {
            return NONE;
        }
        switch (what) {
            case 0:
                return runs.bestFirst;
            case 1:
                return runs.bestLength;
            case 2:
                return runs.bestWorth;
            default:
                return NONE;
        }
    }

    public int order(int k) {
        int count = facts.left.count;
        if (count == 0 || count > Orders.MOST || k < NONE || k >= count) {
            return NONE;
        }
        orders.find(facts.left);
        return k == NONE ? orders.most : orders.line[k];
    }

    public int held() {
        return facts.left.count == 0 ? NONE : facts.left.mostHeld();
    }

    public int pages(int p, int what) {
        int count = facts.left.count;
        if (count == 0 || p < 1 || p > Book.MOST_STEPS || what < 0) {
            return NONE;
        }
        orders.cut(facts.left, p);
        switch (what) {
            case 0:
                return orders.pageCount(0);
            case 1:
                return orders.backward[0];
            default:
                return orders.firstOn(what - 2);
        }
    }

    public int blame(int rule, boolean is) {
        if (!book.hasRule(rule)) {
            return NONE;
        }
        setWrong(is ? wrongRules | 1 << rule : wrongRules & ~(1 << rule));
        return Long.bitCount(fallen);
    }

    public int stands() {
        if (book.steps == 0) {
            return NONE;
        }
        return flag((facts.sameAs(book.goal) & ~fallen) != 0L);
    }

    public int fewest(int k) {
        ways.search(facts, wrongRules);
        if (ways.best == 0L) {
            return NONE;
        }
        return k == NONE ? Long.bitCount(ways.best) : kthOf(ways.best, k);
    }

    public int ask(int reader, boolean is) {
        if (reader < 0 || reader >= book.readers) {
            return NONE;
        }
        watch.asked = is ? watch.asked | 1 << reader : watch.asked & ~(1 << reader);
        return Integer.bitCount(watch.asked);
    }

    public int least(int what) {
        if (book.steps == 0) {
            return NONE;
        }
        int where = watch.leastSeen(facts, watch.asked);
        switch (what) {
            case 0:
                return watch.seen(book, where, watch.asked);
            case 1:
                return where;
            default:
                return NONE;
        }
    }

    public int whom() {
        return book.steps == 0 ? NONE : watch.nextToAsk(facts);
    }

    public boolean seed(int seed) {
        if (seed < 0) {
            return false;
        }
        watch.draws = seed;
        return true;
    }

    public int trials(int step, int n) {
        if (!book.hasStep(step) || n < 1 || n > Watch.MOST_TRIALS) {
            return NONE;
        }
        int seen = 0;
        for (int k = 0; k < n; k++) {
            if (watch.isSeenOnce(book, step)) {
                seen++;
            }
        }
        return seen;
    }

    public int image() {
        picture[0] = wrongRules >> 8 & 255;
        picture[1] = wrongRules & 255;
        picture[2] = watch.asked;
        picture[3] = check(picture[0], picture[1], picture[2]);
        isPictured = true;
        return IMAGE_BYTES;
    }

    public int octet(int k) {
        return isPictured && k >= 0 && k < IMAGE_BYTES ? picture[k] : NONE;
    }

    public boolean on() {
        int rulesWrong = tape.byteAt(0) << 8 | tape.byteAt(1);
        int readersAsked = tape.byteAt(2);
        boolean isImage = tape.count == IMAGE_BYTES
                && tape.byteAt(3) == check(tape.byteAt(0), tape.byteAt(1), readersAsked)
                && rulesWrong >> book.rules == 0
                && readersAsked >> book.readers == 0;
        tape.count = 0;
        if (isImage) {
            watch.asked = readersAsked;
            setWrong(rulesWrong);
        }
        return isImage;
    }

    private static int check(int one, int two, int three) {
        int sum = (7 * 61 + one) % 247;
        sum = (7 * sum + two) % 247;
        return (7 * sum + three) % 247;
    }

    private void setWrong(int rules) {
        wrongRules = rules;
        fallen = book.fallenBy(rules);
        ways.known = false;
    }

    private static int flag(boolean is) {
        return is ? 1 : 0;
    }

    /** A STEP as a bit: sets of STEPS are one number, as there are 40 at most. */
    private static long bit(int step) {
        return 1L << step;
    }

    private static boolean isIn(int step, long set) {
        return (set >>> step & 1L) != 0L;
    }

    private static int kthOf(long set, int k) {
        int ahead = 0;
        for (int step = 0; step < Book.MOST_STEPS; step++) {
            if (isIn(step, set)) {
                if (ahead == k) {
                    return step;
                }
                ahead++;
            }
        }
        return NONE;
    }

    private static int letterOf(int name, int k) {
        return name >> Tape.LETTER_BITS * (Tape.LETTERS - 1 - k) & 31;
    }

    /** The bytes that were fed and are not used yet, and a head that reads them word by word. */
    private static final class Tape {
        static final int MOST = 1600;
        static final int FED_AT_ONCE = 20;

        static final int LETTERS = 6;
        static final int LETTER_BITS = 5;
        static final int DIGITS = 4;

        static final int END = 0;
        static final int MARK = 1;
        static final int WORD = 2;
        static final int NUMBER = 3;

        final byte[] row = new byte[MOST];
        int count;
        int type;
        int place;
        int size;
        /** A mark's byte, a number, or a word: five bits a letter, the first one highest. */
        int value;
        /** A word right behind a number, or a number right behind a word: no text goes on so. */
        boolean isGlued;

        boolean hasRoom() {
            return count + FED_AT_ONCE <= MOST;
        }

        void add(int number) {
            for (int shift = 24; shift >= 0 && count < MOST; shift -= 8) {
                row[count] = (byte) (number >> shift);
                count++;
            }
        }

        int byteAt(int where) {
            return where >= 0 && where < count ? row[where] & 255 : NONE;
        }

        void rewind() {
            type = END;
            place = 0;
            size = 0;
            advance();
        }

        void advance() {
            int here = place + size;
            while (here < count && (row[here] == ' ' || row[here] == 10)) {
                here++;
            }
            isGlued = type >= WORD && here == place + size;
            place = here;
            size = 0;
            value = 0;
            if (here >= count) {
                type = END;
                return;
            }
            boolean isLetter = row[here] >= 'a' && row[here] <= 'z';
            boolean isDigit = row[here] >= '0' && row[here] <= '9';
            type = isLetter ? WORD : isDigit ? NUMBER : MARK;
            if (type == MARK) {
                value = row[here] & 255;
                size = 1;
                return;
            }
            int lowest = isLetter ? 'a' : '0';
            int highest = isLetter ? 'z' : '9';
            for (; here < count && row[here] >= lowest && row[here] <= highest; here++) {
                if (isLetter && size < LETTERS) {
                    value |= row[here] - 'a' + 1 << LETTER_BITS * (LETTERS - 1 - size);
                } else if (isDigit && size < DIGITS) {
                    value = 10 * value + row[here] - '0';
                }
                size++;
            }
        }

        boolean isWord(int word) {
            return type == WORD && !isGlued && size <= LETTERS && value == word;
        }

        boolean isMark(int mark) {
            return type == MARK && value == mark;
        }
    }

    /**
     * All TERMS of one proof, each from the left on in one row of cells. As a SIGN has always as many
     * parts, that alone tells the TERM; where a part ends is kept beside it.
     */
    private static final class Terms {
        static final int MOST_SIGNS = 24;
        static final int MOST_HOLES = 12;
        static final int MOST_IN_ONE = 24;
        static final int MOST_IN_ALL = 400;
        static final int HOLE = 100;
        static final int MADE = 200;

        final int[] signName = new int[MOST_SIGNS];
        final int[] signParts = new int[MOST_SIGNS];
        final int[] holeName = new int[MOST_HOLES];
        final int[] cell = new int[MOST_IN_ALL];
        final int[] behind = new int[MOST_IN_ALL];
        /** Where the TERM stands for which a pattern's HOLE is taken. */
        final int[] taken = new int[MOST_HOLES];
        int signs;
        int holes;
        int cells;

        void clear() {
            signs = 0;
            holes = 0;
            cells = 0;
        }

        /** The cell for a SIGN of that name, told already or new; NONE when it is one too many. */
        int signFor(int name) {
            for (int sign = 0; sign < signs; sign++) {
                if (signName[sign] == name) {
                    return sign;
                }
            }
            if (signs == MOST_SIGNS) {
                return NONE;
            }
            signName[signs] = name;
            signParts[signs] = NONE;
            signs++;
            return signs - 1;
        }

        /** The cell for a HOLE of that name, told already or new; NONE when it is one too many. */
        int holeFor(int name) {
            for (int hole = 0; hole < holes; hole++) {
                if (holeName[hole] == name) {
                    return HOLE + hole;
                }
            }
            if (holes == MOST_HOLES) {
                return NONE;
            }
            holeName[holes] = name;
            holes++;
            return HOLE + holes - 1;
        }

        void add(int what) {
            if (cells < MOST_IN_ALL) {
                cell[cells] = what;
                behind[cells] = cells + 1;
                cells++;
            }
        }

        /** The SIGN at a cell has all its parts: false, if it had another number of them before. */
        boolean endParts(int at, int parts) {
            int sign = cell[at];
            behind[at] = cells;
            if (signParts[sign] == NONE) {
                signParts[sign] = parts;
            }
            return signParts[sign] == parts;
        }

        int size(int start) {
            return behind[start] - start;
        }

        boolean areSame(int one, int other) {
            int size = size(one);
            if (size(other) != size) {
                return false;
            }
            for (int k = 0; k < size; k++) {
                if (cell[one + k] != cell[other + k]) {
                    return false;
                }
            }
            return true;
        }

        void freeHoles() {
            Arrays.fill(taken, NONE);
        }

        /** Whether HOLES of the pattern that are free yet can be taken so that it is the TERM. */
        boolean fits(int pattern, int start) {
            int there = start;
            for (int here = pattern; here < behind[pattern]; here++) {
                int what = cell[here];
                if (there >= cells) {
                    return false;
                }
                if (what < HOLE) {
                    if (cell[there] != what) {
                        return false;
                    }
                    there++;
                } else {
                    if (!takes(what - HOLE, there)) {
                        return false;
                    }
                    there = behind[there];
                }
            }
            return true;
        }

        private boolean takes(int hole, int start) {
            if (taken[hole] == NONE) {
                taken[hole] = start;
            }
            return areSame(taken[hole], start);
        }
    }

    /** What a text tells: RULES, STEPS, the GOAL, READERS, and their TERMS. */
    private static final class Book {
        static final int MOST_RULES = 12;
        static final int MOST_STEPS = 40;
        static final int MOST_READERS = 6;
        /** As many PREMISES has a RULE at most, as many parts a SIGN. */
        static final int MOST_PARTS = 3;

        final Terms terms = new Terms();
        final int[] ruleName = new int[MOST_RULES];
        final int[] premises = new int[MOST_RULES];
        final int[] premise = new int[MOST_PARTS * MOST_RULES];
        final int[] gives = new int[MOST_RULES];
        final int[] stepRule = new int[MOST_STEPS];
        final int[] stepTerm = new int[MOST_STEPS];
        final int[] namedSteps = new int[MOST_PARTS * MOST_STEPS];
        final int[] readerName = new int[MOST_READERS];
        final int[] odds = new int[MOST_READERS];
        final int[] from = new int[MOST_READERS];
        final int[] upTo = new int[MOST_READERS];
        int rules;
        int steps;
        int readers;
        int goal = NONE;

        void clear() {
            terms.clear();
            rules = 0;
            steps = 0;
            readers = 0;
            goal = NONE;
        }

        void addRule(int name, int premiseCount, int given) {
            ruleName[rules] = name;
            premises[rules] = premiseCount;
            gives[rules] = given;
            rules++;
        }

        void addStep(int start, int by) {
            stepTerm[steps] = start;
            stepRule[steps] = by;
            steps++;
        }

        void addReader(int name, int chance, int low, int high) {
            readerName[readers] = name;
            odds[readers] = chance;
            from[readers] = low;
            upTo[readers] = high;
            readers++;
        }

        boolean hasRule(int which) {
            return which >= 0 && which < rules;
        }

        boolean hasStep(int which) {
            return which >= 0 && which < steps;
        }

        long all() {
            return bit(steps) - 1L;
        }

        int ruleNamed(int name) {
            for (int which = 0; which < rules; which++) {
                if (ruleName[which] == name) {
                    return which;
                }
            }
            return NONE;
        }

        boolean hasReaderNamed(int name) {
            for (int which = 0; which < readers; which++) {
                if (readerName[which] == name) {
                    return true;
                }
            }
            return false;
        }

        int nameCount(int which) {
            return premises[stepRule[which]];
        }

        int named(int which, int k) {
            return namedSteps[MOST_PARTS * which + k];
        }

        int stepsBy(int which) {
            int count = 0;
            for (int k = 0; k < steps; k++) {
                if (stepRule[k] == which) {
                    count++;
                }
            }
            return count;
        }

        /** The STEPS that fall, if just the RULES with these bits are WRONG. */
        long fallenBy(int rulesWrong) {
            long down = 0L;
            for (int which = 0; which < steps; which++) {
                boolean falls = (rulesWrong >> stepRule[which] & 1) != 0;
                for (int k = 0; k < nameCount(which); k++) {
                    falls = falls || isIn(named(which, k), down);
                }
                if (falls) {
                    down |= bit(which);
                }
            }
            return down;
        }
    }

    /** Reads a tape into a book, up to the first fault. */
    private static final class Parser {
        static final int MOST_STATEMENTS = 80;
        static final int MOST_OPEN = 6;

        static final int UNFIT = 1;
        static final int CANNOT_BE = 2;
        static final int NAMED = 3;
        static final int DEEP = 4;
        static final int MANY = 5;

        static final int NO_WORD = 0;
        static final int RULE = 18 << 25 | 21 << 20 | 12 << 15 | 5 << 10;
        static final int GIVES = 7 << 25 | 9 << 20 | 22 << 15 | 5 << 10 | 19 << 5;
        static final int STEP = 19 << 25 | 20 << 20 | 5 << 15 | 16 << 10;
        static final int BY = 2 << 25 | 25 << 20;
        static final int GOAL = 7 << 25 | 15 << 20 | 1 << 15 | 12 << 10;
        static final int READER = 18 << 25 | 5 << 20 | 1 << 15 | 4 << 10 | 5 << 5 | 18;
        static final int ODDS = 15 << 25 | 4 << 20 | 4 << 15 | 19 << 10;
        static final int FROM = 6 << 25 | 18 << 20 | 15 << 15 | 13 << 10;
        static final int TO = 20 << 25 | 15 << 20;

        /** The SIGNS whose brackets are open: their cells, where they stand, their parts so far. */
        final int[] openCell = new int[MOST_OPEN];
        final int[] openPlace = new int[MOST_OPEN];
        final int[] openParts = new int[MOST_OPEN];
        int open;
        Tape text;
        Book book;
        int goal;
        int namePlace;
        int kind;
        int place = NONE;

        /** How many STATEMENTS there are; NONE with a fault. */
        int parse(Tape tape, Book into) {
            text = tape;
            book = into;
            book.clear();
            goal = NONE;
            kind = 0;
            place = NONE;
            text.rewind();
            int told = 0;
            while (told < MOST_STATEMENTS && text.type != Tape.END) {
                if (!readStatement()) {
                    return NONE;
                }
                told++;
            }
            if (text.type != Tape.END) {
                refuse(MANY, text.place);
                return NONE;
            }
            book.goal = goal == NONE ? book.steps - 1 : goal;
            return told;
        }

        private boolean refuse(int what, int where) {
            kind = what;
            place = where;
            return false;
        }

        private boolean readStatement() {
            int start = text.place;
            boolean isTold;
            if (text.isWord(RULE)) {
                isTold = book.rules < Book.MOST_RULES ? readRule() : refuse(MANY, start);
            } else if (text.isWord(STEP)) {
                isTold = book.steps < Book.MOST_STEPS ? readStep() : refuse(MANY, start);
            } else if (text.isWord(GOAL)) {
                isTold = readGoal();
            } else if (text.isWord(READER)) {
                isTold = book.readers < Book.MOST_READERS ? readReader() : refuse(MANY, start);
            } else {
                isTold = refuse(UNFIT, start);
            }
            return isTold && takeMark(';');
        }

        private boolean readRule() {
            int which = book.rules;
            int premises = 0;
            text.advance();
            int name = takeNewName();
            if (name == NO_WORD) {
                return false;
            }
            boolean goesOn = !text.isWord(GIVES);
            while (goesOn && premises < Book.MOST_PARTS) {
                int premise = readTerm();
                if (premise == NONE) {
                    return false;
                }
                book.premise[Book.MOST_PARTS * which + premises] = premise;
                premises++;
                goesOn = premises < Book.MOST_PARTS && text.isMark(',');
                if (goesOn) {
                    text.advance();
                }
            }
            if (!takeWord(GIVES)) {
                return false;
            }
            int gives = readTerm();
            if (gives == NONE) {
                return false;
            }
            book.addRule(name, premises, gives);
            return true;
        }

        private boolean readStep() {
            int which = book.steps;
            text.advance();
            int start = readTerm();
            if (start == NONE || !takeWord(BY)) {
                return false;
            }
            int name = takeName();
            if (name == NO_WORD) {
                return false;
            }
            int by = book.ruleNamed(name);
            if (by == NONE) {
                return refuse(NAMED, namePlace);
            }
            for (int k = 0; k < book.premises[by]; k++) {
                int number = takeNumber(0, which - 1);
                if (number == NONE) {
                    return false;
                }
                book.namedSteps[Book.MOST_PARTS * which + k] = number;
            }
            book.addStep(start, by);
            return true;
        }

        private boolean readGoal() {
            text.advance();
            int number = takeNumber(0, book.steps - 1);
            if (number == NONE) {
                return false;
            }
            goal = number;
            return true;
        }

        private boolean readReader() {
            text.advance();
            int name = takeNewName();
            if (name == NO_WORD || !takeWord(ODDS)) {
                return false;
            }
            int odds = takeNumber(0, 100);
            if (odds == NONE || !takeWord(FROM)) {
                return false;
            }
            int from = takeNumber(0, book.steps - 1);
            if (from == NONE || !takeWord(TO)) {
                return false;
            }
            int upTo = takeNumber(from, book.steps - 1);
            if (upTo == NONE) {
                return false;
            }
            book.addReader(name, odds, from, upTo);
            return true;
        }

        /** Reads a TERM: at which cell it begins; NONE with a fault. */
        private int readTerm() {
            int start = book.terms.cells;
            open = 0;
            for (int k = 0; k <= Terms.MOST_IN_ONE; k++) {
                int what = readCell(start);
                if (what == NONE) {
                    return NONE;
                }
                boolean isSign = what < Terms.HOLE;
                boolean goesOn = isSign && text.isMark('(') ? openBracket() : closeBrackets(isSign);
                if (!goesOn) {
                    return NONE;
                }
                if (open == 0) {
                    return start;
                }
            }
            return NONE;
        }

        /** Reads one SIGN or HOLE of the TERM that began at a cell: it; NONE with a fault. */
        private int readCell(int start) {
            Terms terms = book.terms;
            boolean isHole = text.isMark('?');
            if (isHole) {
                text.advance();
            }
            int name = takeName();
            if (name == NO_WORD) {
                return NONE;
            }
            int what = NONE;
            if (terms.cells - start < Terms.MOST_IN_ONE && terms.cells < Terms.MOST_IN_ALL) {
                what = isHole ? terms.holeFor(name) : terms.signFor(name);
            }
            if (what == NONE) {
                refuse(MANY, namePlace);
                return NONE;
            }
            terms.add(what);
            return what;
        }

        private boolean openBracket() {
            if (open >= MOST_OPEN) {
                return refuse(DEEP, text.place);
            }
            openCell[open] = book.terms.cells - 1;
            openPlace[open] = namePlace;
            openParts[open] = 1;
            open++;
            text.advance();
            return true;
        }

        /** A part has ended: closes what ends with it, up to the TERM's end or a comma. */
        private boolean closeBrackets(boolean isSign) {
            if (isSign && !book.terms.endParts(book.terms.cells - 1, 0)) {
                return refuse(NAMED, namePlace);
            }
            for (int top = open - 1; top >= 0; top--) {
                if (openParts[top] < Book.MOST_PARTS && text.isMark(',')) {
                    openParts[top]++;
                    text.advance();
                    return true;
                }
                if (!takeMark(')')) {
                    return false;
                }
                if (!book.terms.endParts(openCell[top], openParts[top])) {
                    return refuse(NAMED, openPlace[top]);
                }
                open = top;
            }
            return true;
        }

        private boolean takeMark(int mark) {
            if (!text.isMark(mark)) {
                return refuse(UNFIT, text.place);
            }
            text.advance();
            return true;
        }

        private boolean takeWord(int word) {
            if (!text.isWord(word)) {
                return refuse(UNFIT, text.place);
            }
            text.advance();
            return true;
        }

        /** A NAME; NO_WORD with a fault. */
        private int takeName() {
            int name = text.value;
            namePlace = text.place;
            if (text.type != Tape.WORD || text.isGlued) {
                refuse(UNFIT, namePlace);
                return NO_WORD;
            }
            if (text.size > Tape.LETTERS) {
                refuse(UNFIT, namePlace + Tape.LETTERS);
                return NO_WORD;
            }
            if (isOwn(name)) {
                refuse(UNFIT, namePlace);
                return NO_WORD;
            }
            text.advance();
            return name;
        }

        /** A NAME that no RULE or READER has; NO_WORD with a fault. */
        private int takeNewName() {
            int name = takeName();
            if (name != NO_WORD && (book.ruleNamed(name) != NONE || book.hasReaderNamed(name))) {
                refuse(NAMED, namePlace);
                return NO_WORD;
            }
            return name;
        }

        /** A number from low to high; NONE with a fault. */
        private int takeNumber(int low, int high) {
            int number = text.value;
            int where = text.place;
            if (text.type != Tape.NUMBER || text.isGlued) {
                refuse(UNFIT, where);
                return NONE;
            }
            if (text.size > Tape.DIGITS) {
                refuse(UNFIT, where + Tape.DIGITS);
                return NONE;
            }
            if (number < low || number > high) {
                refuse(CANNOT_BE, where);
                return NONE;
            }
            text.advance();
            return number;
        }

        private static boolean isOwn(int word) {
            switch (word) {
                case RULE:
                case GIVES:
                case STEP:
                case BY:
                case GOAL:
                case READER:
                case ODDS:
                case FROM:
                case TO:
                    return true;
                default:
                    return false;
            }
        }
    }

    /** What follows from a book alone, worked out once when it is read. */
    private static final class Facts {
        final int[] first = new int[Book.MOST_STEPS];
        final int[] coverer = new int[Book.MOST_STEPS];
        final int[] covering = new int[Book.MOST_STEPS];
        final int[] deep = new int[Book.MOST_STEPS];
        final long[] below = new long[Book.MOST_STEPS];
        final long[] namers = new long[Book.MOST_STEPS];
        final Rest left = new Rest();
        Book book;
        long right;
        long needed;
        long twice;
        long covered;
        long vitalSteps;

        Facts(Book empty) {
            book = empty;
        }

        void study(Book read) {
            book = read;
            right = 0L;
            twice = 0L;
            covered = 0L;
            vitalSteps = 0L;
            for (int which = 0; which < book.steps; which++) {
                compare(which);
                follow(which);
                if (isRight(which)) {
                    right |= bit(which);
                }
            }
            needed = book.steps == 0 ? 0L : bit(book.goal) | below[book.goal];
            for (int which = 0; which < book.steps; which++) {
                if (!isProvedWithout(which)) {
                    vitalSteps |= bit(which);
                }
            }
            left.gather(this);
        }

        private void compare(int which) {
            Terms terms = book.terms;
            int start = book.stepTerm[which];
            first[which] = which;
            coverer[which] = NONE;
            covering[which] = 0;
            for (int earlier = which - 1; earlier >= 0; earlier--) {
                if (terms.areSame(book.stepTerm[earlier], start)) {
                    first[which] = earlier;
                    twice |= bit(which);
                }
                terms.freeHoles();
                if (terms.fits(book.stepTerm[earlier], start)) {
                    coverer[which] = earlier;
                    covering[earlier]++;
                    covered |= bit(which);
                }
            }
        }

        private void follow(int which) {
            below[which] = 0L;
            namers[which] = 0L;
            deep[which] = 1;
            for (int k = 0; k < book.nameCount(which); k++) {
                int named = book.named(which, k);
                below[which] |= bit(named) | below[named];
                namers[named] |= bit(which);
                deep[which] = Math.max(deep[which], deep[named] + 1);
            }
        }

        private boolean isRight(int which) {
            int by = book.stepRule[which];
            book.terms.freeHoles();
            for (int k = 0; k < book.premises[by]; k++) {
                int named = book.named(which, k);
                if (!book.terms.fits(book.premise[Book.MOST_PARTS * by + k], book.stepTerm[named])) {
                    return false;
                }
            }
            return book.terms.fits(book.gives[by], book.stepTerm[which]);
        }

        private boolean isProvedWithout(int out) {
            long proved = 0L;
            for (int which = 0; which < book.steps; which++) {
                boolean holds = which != out;
                for (int k = 0; k < book.nameCount(which); k++) {
                    holds = holds && isIn(first[book.named(which, k)], proved);
                }
                if (holds) {
                    proved |= bit(first[which]);
                }
            }
            return isIn(first[book.goal], proved);
        }

        int neededUpon(int which) {
            int count = 0;
            for (int other = which + 1; other < book.steps; other++) {
                if (isIn(other, needed) && isIn(which, below[other])) {
                    count++;
                }
            }
            return count;
        }

        long sameAs(int which) {
            long same = 0L;
            for (int other = 0; other < book.steps; other++) {
                if (first[other] == first[which]) {
                    same |= bit(other);
                }
            }
            return same;
        }
    }

    /** THE REST: its last one is always the GOAL's, as all others are there for it. */
    private static final class Rest {
        final int[] stepAt = new int[Book.MOST_STEPS];
        final int[] number = new int[Book.MOST_STEPS];
        final int[] leanCount = new int[Book.MOST_STEPS];
        final int[] lean = new int[Book.MOST_PARTS * Book.MOST_STEPS];
        final long[] leansOn = new long[Book.MOST_STEPS];
        final long[] leanedOnBy = new long[Book.MOST_STEPS];
        int count;

        void gather(Facts facts) {
            Book book = facts.book;
            long kept = keptOf(facts);
            count = 0;
            for (int which = 0; which < book.steps; which++) {
                number[which] = NONE;
                if (isIn(which, kept)) {
                    number[which] = count;
                    add(facts, which);
                }
            }
        }

        private static long keptOf(Facts facts) {
            Book book = facts.book;
            if (book.steps == 0) {
                return 0L;
            }
            int top = facts.first[book.goal];
            long kept = bit(top);
            for (int which = top; which >= 0; which--) {
                for (int k = 0; isIn(which, kept) && k < book.nameCount(which); k++) {
                    kept |= bit(facts.first[book.named(which, k)]);
                }
            }
            return kept;
        }

        private void add(Facts facts, int which) {
            Book book = facts.book;
            stepAt[count] = which;
            leanCount[count] = book.nameCount(which);
            leansOn[count] = 0L;
            leanedOnBy[count] = 0L;
            for (int k = 0; k < leanCount[count]; k++) {
                int on = number[facts.first[book.named(which, k)]];
                lean[Book.MOST_PARTS * count + k] = on;
                leansOn[count] |= bit(on);
                leanedOnBy[on] |= bit(count);
            }
            count++;
        }

        int heldWith(long told) {
            int held = 0;
            for (int which = 0; which < count; which++) {
                boolean isWanted = which == count - 1 || (leanedOnBy[which] & ~told) != 0L;
                if (isIn(which, told) && isWanted) {
                    held++;
                }
            }
            return held;
        }

        int mostHeld() {
            int most = 0;
            for (int told = 1; told <= count; told++) {
                most = Math.max(most, heldWith(bit(told) - 1L));
            }
            return most;
        }

        /** How many times one names something ahead of a place. */
        int looksAhead(int which, int placed) {
            int looks = 0;
            for (int k = 0; k < leanCount[which]; k++) {
                if (lean[Book.MOST_PARTS * which + k] < placed) {
                    looks++;
                }
            }
            return looks;
        }
    }

    /** Two TERMS laid side by side. */
    private static final class Beside {
        final int[] cell = new int[Terms.MOST_IN_ONE];
        final int[] one = new int[Terms.MOST_IN_ONE];
        final int[] other = new int[Terms.MOST_IN_ONE];
        int size;
        int made;
        int unlike;

        void lay(Terms terms, int first, int second) {
            int here = first;
            int there = second;
            size = 0;
            made = 0;
            unlike = 0;
            while (size < Terms.MOST_IN_ONE && here < terms.behind[first] && there < terms.behind[second]) {
                if (terms.cell[here] == terms.cell[there]) {
                    cell[size] = terms.cell[here];
                    here++;
                    there++;
                } else {
                    cell[size] = Terms.MADE + holeFor(terms, here, there);
                    made++;
                    here = terms.behind[here];
                    there = terms.behind[there];
                }
                size++;
            }
        }

        private int holeFor(Terms terms, int here, int there) {
            for (int k = 0; k < unlike; k++) {
                if (terms.areSame(one[k], here) && terms.areSame(other[k], there)) {
                    return k;
                }
            }
            one[unlike] = here;
            other[unlike] = there;
            unlike++;
            return unlike - 1;
        }
    }

    /** RUNS of STEPS, and the one that is most worth a name: looked for once for each book. */
    private static final class Runs {
        static final int SHORTEST = 2;
        static final int LONGEST = 8;

        boolean known;
        int bestFirst;
        int bestLength;
        int bestWorth;

        static boolean fit(Book book, int first, int n) {
            return n >= SHORTEST && n <= LONGEST && first >= 0 && first <= book.steps - n;
        }

        static boolean meet(int first, int second, int n) {
            return Math.abs(first - second) < n;
        }

        boolean isRun(Facts facts, int first, int n) {
            long inside = bit(first + n) - bit(first);
            for (int which = first; which < first + n - 1; which++) {
                if ((facts.namers[which] & ~inside) != 0L) {
                    return false;
                }
            }
            return true;
        }

        boolean areAlike(Book book, int first, int second, int n) {
            for (int k = 0; k < n; k++) {
                if (book.stepRule[first + k] != book.stepRule[second + k]) {
                    return false;
                }
                for (int j = 0; j < book.nameCount(first + k); j++) {
                    int one = book.named(first + k, j);
                    int other = book.named(second + k, j);
                    if (!areInSamePlace(one, first, other, second) && !areAhead(one, other, first, second)) {
                        return false;
                    }
                }
            }
            return true;
        }

        /** A STEP names earlier ones alone, so what is not ahead of its RUN is inside. */
        private static boolean areInSamePlace(int one, int first, int other, int second) {
            return one >= first && one - first == other - second;
        }

        /** Ahead of both RUNS: what stands between them, or in the earlier one, is not. */
        private static boolean areAhead(int one, int other, int first, int second) {
            return Math.max(one, other) < Math.min(first, second);
        }

        boolean isFirstOfItsKind(Facts facts, int first, int n) {
            for (int ahead = 0; ahead <= first - n; ahead++) {
                if (isRun(facts, ahead, n) && areAlike(facts.book, ahead, first, n)) {
                    return false;
                }
            }
            return true;
        }

        int worthOf(Facts facts, int first, int n) {
            int count = 1;
            int free = first + n;
            for (int next = free; next <= facts.book.steps - n; next++) {
                if (next >= free && isRun(facts, next, n) && areAlike(facts.book, first, next, n)) {
                    count++;
                    free = next + n;
                }
            }
            return count * (n - 1) - n;
        }

        void findBest(Facts facts) {
            if (known) {
                return;
            }
            known = true;
            bestWorth = 0;
            for (int first = 0; first < facts.book.steps; first++) {
                for (int n = SHORTEST; n <= LONGEST && fit(facts.book, first, n); n++) {
                    if (isRun(facts, first, n) && isFirstOfItsKind(facts, first, n)) {
                        keepIfBetter(first, n, worthOf(facts, first, n));
                    }
                }
            }
        }

        private void keepIfBetter(int first, int n, int worth) {
            if (worth > bestWorth) {
                bestFirst = first;
                bestLength = n;
                bestWorth = worth;
            }
        }
    }

    /** The first ORDER in which the least is HELD, looked for once for each book; and PAGES. */
    private static final class Orders {
        static final int MOST = 14;
        /** Each set of told STEPS is come to once and left once. */
        static final int MOST_TURNS = 2 << MOST;

        final int[] line = new int[MOST];
        /** A bit for each set of told STEPS from which the search came back. */
        final long[] dead = new long[1 << MOST - 6];
        /** For what stands from a STEP on, if a page begins there: how often it looks back, the next page. */
        final int[] backward = new int[Book.MOST_STEPS + 1];
        final int[] nextPage = new int[Book.MOST_STEPS + 1];
        boolean known;
        int most;
        int count;
        int pageSize = 1;

        void find(Rest left) {
            if (known) {
                return;
            }
            known = true;
            most = 1;
            while (!tellsWithin(left) && most < left.count) {
                most++;
            }
        }

        /** Looks for the first ORDER by numbers in which never more than the most are HELD. */
        private boolean tellsWithin(Rest left) {
            int told = 0;
            int size = 0;
            int from = 0;
            Arrays.fill(dead, 0L);
            for (int turn = 0; turn <= MOST_TURNS; turn++) {
                if (size == left.count) {
                    return true;
                }
                int next = nextFrom(left, from, told);
                if (next != NONE) {
                    line[size] = next;
                    size++;
                    told |= 1 << next;
                    from = 0;
                } else if (size == 0) {
                    return false;
                } else {
                    dead[told >> 6] |= bit(told & 63);
                    size--;
                    told &= ~(1 << line[size]);
                    from = line[size] + 1;
                }
            }
            return false;
        }

        private int nextFrom(Rest left, int from, int told) {
            for (int which = from; which < left.count; which++) {
                int with = told | 1 << which;
                boolean isFree = with != told && (left.leansOn[which] & ~(long) told) == 0L;
                if (isFree && !isIn(with & 63, dead[with >> 6]) && left.heldWith(with) <= most) {
                    return which;
                }
            }
            return NONE;
        }

        void cut(Rest left, int size) {
            count = left.count;
            pageSize = Math.max(1, size);
            backward[count] = 0;
            for (int first = count - 1; first >= 0; first--) {
                cutFrom(left, first);
            }
        }

        private void cutFrom(Rest left, int first) {
            int looks = 0;
            int best = HUGE;
            for (int next = first + 1; next <= count && next <= first + pageSize; next++) {
                looks += left.looksAhead(next - 1, first);
                int all = looks + backward[next];
                if (pageCount(next) < pageCount(first) && all < best) {
                    best = all;
                    nextPage[first] = next;
                }
            }
            backward[first] = best;
        }

        int pageCount(int first) {
            return (count - first + pageSize - 1) / pageSize;
        }

        int firstOn(int page) {
            int first = 0;
            for (int k = 0; k < page && first < count; k++) {
                first = nextPage[first];
            }
            return first < count ? first : NONE;
        }
    }

    /** THE FEWEST: looked for once for each book and its WRONG RULES. */
    private static final class Ways {
        static final int MOST = 4096;

        /** At the first STEP of each TERM: the first one that may be taken, how many, the one taken now. */
        final int[] start = new int[Book.MOST_STEPS];
        final int[] choices = new int[Book.MOST_STEPS];
        final int[] pick = new int[Book.MOST_STEPS];
        /** At each STEP: the next one of its TERM that may be taken. */
        final int[] next = new int[Book.MOST_STEPS];
        boolean known;
        long best;

        void search(Facts facts, int wrongRules) {
            if (known) {
                return;
            }
            known = true;
            best = 0L;
            int count = lineUp(facts, wrongRules);
            if (facts.book.steps == 0 || count > MOST) {
                return;
            }
            for (int way = 0; way < count; way++) {
                keepIfFewer(setOf(facts));
                advance(facts.book.steps);
            }
        }

        /** How many ways there are: 40 STEPS make some two million at most. */
        private int lineUp(Facts facts, int wrongRules) {
            Book book = facts.book;
            int count = 1;
            Arrays.fill(start, NONE);
            Arrays.fill(choices, 0);
            for (int which = book.steps - 1; which >= 0; which--) {
                int same = facts.first[which];
                if ((wrongRules >> book.stepRule[which] & 1) == 0) {
                    next[which] = start[same];
                    start[same] = which;
                    choices[same]++;
                }
            }
            for (int which = 0; which < book.steps; which++) {
                pick[which] = start[which];
                count *= Math.max(1, choices[which]);
            }
            return count;
        }

        private void advance(int steps) {
            for (int which = 0; which < steps; which++) {
                if (pick[which] != NONE) {
                    pick[which] = next[pick[which]];
                    if (pick[which] != NONE) {
                        return;
                    }
                    pick[which] = start[which];
                }
            }
        }

        /** What the GOAL needs by the picks of now; no STEP at all, if they do not prove it. */
        private long setOf(Facts facts) {
            Book book = facts.book;
            int top = pick[facts.first[book.goal]];
            if (top == NONE) {
                return 0L;
            }
            long set = bit(top);
            for (int which = top; which >= 0; which--) {
                for (int k = 0; isIn(which, set) && k < book.nameCount(which); k++) {
                    int on = pick[facts.first[book.named(which, k)]];
                    if (on == NONE || on >= which) {
                        return 0L;
                    }
                    set |= bit(on);
                }
            }
            return set;
        }

        private void keepIfFewer(long set) {
            int more = Long.bitCount(set) - Long.bitCount(best);
            if (set != 0L && (best == 0L || more < 0 || more == 0 && set < best)) {
                best = set;
            }
        }
    }

    /** What ASKED READERS see. */
    private static final class Watch {
        static final int MOST_TRIALS = 1000;

        int asked;
        int draws = 1;

        private static boolean looksAt(Book book, int reader, int which) {
            return book.from[reader] <= which && which <= book.upTo[reader];
        }

        int seen(Book book, int which, int readers) {
            int left = 1000;
            for (int reader = 0; reader < book.readers; reader++) {
                if ((readers >> reader & 1) != 0 && looksAt(book, reader, which)) {
                    left = left * (100 - book.odds[reader]) / 100;
                }
            }
            return 1000 - left;
        }

        /** The first NEEDED STEP of which least is SEEN, if these READERS are ASKED. */
        int leastSeen(Facts facts, int readers) {
            int where = NONE;
            int least = HUGE;
            for (int which = 0; which < facts.book.steps; which++) {
                if (isIn(which, facts.needed)) {
                    int here = seen(facts.book, which, readers);
                    if (here < least) {
                        least = here;
                        where = which;
                    }
                }
            }
            return where;
        }

        int nextToAsk(Facts facts) {
            int who = NONE;
            int most = NONE;
            for (int reader = 0; reader < facts.book.readers; reader++) {
                int readers = asked | 1 << reader;
                if (readers != asked) {
                    int least = seen(facts.book, leastSeen(facts, readers), readers);
                    if (least > most) {
                        most = least;
                        who = reader;
                    }
                }
            }
            return who;
        }

        /** One trial: every READER draws, even when another one has seen the STEP already. */
        boolean isSeenOnce(Book book, int which) {
            boolean isSeen = false;
            for (int reader = 0; reader < book.readers; reader++) {
                if ((asked >> reader & 1) != 0 && looksAt(book, reader, which)) {
                    draws = 1103515245 * draws + 12345 & HUGE;
                    if ((draws >> 6) % 100 < book.odds[reader]) {
                        isSeen = true;
                    }
                }
            }
            return isSeen;
        }
    }
}
