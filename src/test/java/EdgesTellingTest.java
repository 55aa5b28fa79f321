/** Terms III and promises 27 to 40: each sentence that names a boundary, with a test of its own. */
public final class EdgesTellingTest {
    private static final int NONE = LongProof.NONE;
    private static final int MOST = Integer.MAX_VALUE;
    private static final int LOWEST = Integer.MIN_VALUE;

    /** RULES of each number of PREMISES that take and give anything. */
    private static final String ANY = "rule o gives ?x;rule s ?x gives ?y;rule t ?x,?y gives ?z;rule u ?x,?y,?z gives ?w;";

    /** Seven STEPS: two leaves twice, each pair under one STEP, both under the GOAL. */
    private static final String TREE = ANY + "step a by o;step b by o;step c by o;step d by o;step e by t 0 1;step f by t 2 3;"
            + "step g by t 4 5;";

    public static void main(String[] args) {
        Sentences.terms();
        fourteenAtMost();
        heldBehindEach();
        leastEverHeld();
        fewestPages();
        eachNaming();
        cutsEarliest();
        fallen();
        theFewest();
        earlierNumber();
        ways();
        seenIs();
        whomToAsk();
        aDraw();
        trialsOf();
        anImage();
        imageThatIsTaken();
        order();
        held();
        pages();
        blame();
        stands();
        fewest();
        ask();
        least();
        whom();
        seed();
        trials();
        image();
        octet();
        on();
        onRefused();
        Sentences.close(27, 40);
    }

    private static void says(String words) {
        Sentences.says(words);
    }

    private static void due(String call, long got, long want) {
        Sentences.due(call, got, want);
    }

    private static void due(String call, boolean got, boolean want) {
        Sentences.due(call, got, want);
    }

    private static void none(String call, long got) {
        Sentences.none(call, got);
    }

    private static LongProof of(String text) {
        return Sentences.of(text);
    }

    private static String many(int count, String one) {
        return Sentences.many(count, one);
    }

    /** STEPS of unlike TERMS, each on the one ahead of it. */
    private static String line(int count) {
        StringBuilder text = new StringBuilder(ANY + "step a by o;");
        for (int k = 1; k < count; k++) {
            text.append("step w(").append((char) ('a' + k / 7)).append(',').append((char) ('a' + k % 7)).append(") by s ");
            text.append(k - 1).append(';');
        }
        return text.toString();
    }

    private static void orders(LongProof x, int least, int... want) {
        due("order(-1)", x.order(NONE), least);
        for (int k = 0; k < want.length; k++) {
            due("order(" + k + ")", x.order(k), want[k]);
        }
        none("order(" + want.length + ")", x.order(want.length));
    }

    private static void cuts(LongProof x, int p, int looks, int... firsts) {
        due("pages(" + p + ", 0)", x.pages(p, 0), firsts.length);
        due("pages(" + p + ", 1)", x.pages(p, 1), looks);
        for (int k = 0; k < firsts.length; k++) {
            due("pages(" + p + ", " + (2 + k) + ")", x.pages(p, 2 + k), firsts[k]);
        }
        none("pages(" + p + ", " + (2 + firsts.length) + ")", x.pages(p, 2 + firsts.length));
    }

    private static void fewest(LongProof x, int... steps) {
        due("fewest(-1)", x.fewest(NONE), steps.length == 0 ? NONE : steps.length);
        for (int k = 0; k < steps.length; k++) {
            due("fewest(" + k + ")", x.fewest(k), steps[k]);
        }
        none("fewest(" + steps.length + ")", x.fewest(steps.length));
    }

    private static void fourteenAtMost() {
        says("ORDERS of THE REST (14 STEPS at most, else none): each STEP behind those on which it leans.");
        orders(of(line(14)), 1, 0, 1, 2, 3, 4, 5, 6, 7, 8, 9, 10, 11, 12, 13);
        LongProof fifteen = of(line(15));
        for (int k = -1; k < 16; k++) {
            none("order(" + k + ") of fifteen", fifteen.order(k));
        }
        none("order(-1) of forty", of(line(40)).order(NONE));
        orders(of(line(40) + "goal 13;"), 1, 0, 1, 2, 3, 4, 5, 6, 7, 8, 9, 10, 11, 12, 13);
        none("fourteen and one", of(line(40) + "goal 14;").order(0));
        orders(of(ANY + "step a by o;" + many(39, "step a by s #;")), 1, 0);
    }

    private static void heldBehindEach() {
        says("HELD behind each STEP that is told: those told that are the GOAL, or on which one leans that is not told yet.");
        due("the GOAL alone", of(ANY + "step a by o;").held(), 1);
        due("what the last one leans on is held no more", of(line(2)).held(), 1);
        due("one is held up to the end", of(ANY + "step a by o;step b by s 0;step c by t 1 0;").held(), 2);
        due("one is held up to the one ahead of the end", of(ANY + "step a by o;step b by s 0;step c by t 1 0;step d by s 2;").held(), 2);
        due("three for one", of(ANY + "step a by o;step b by o;step c by o;step d by u 0 1 2;").held(), 3);
        due("one named twice counts once", of(ANY + "step a by o;step b by t 0 0;").held(), 1);
        due("four", of(TREE).held(), 4);
    }

    private static void leastEverHeld() {
        says("The least that is ever HELD at once; of such ORDERS the first by numbers.");
        orders(of(TREE), 3, 0, 1, 2, 4, 3, 5, 6);
        orders(of(ANY + "step a by o;"), 1, 0);
        orders(of(ANY + "step a by o;step b by o;step c by s 1;step d by s 0;step e by t 2 3;"), 2, 0, 1, 2, 3, 4);
        orders(of(ANY + "step a by o;step b by o;step c by o;step d by s 2;step e by s 0;step f by s 1;step g by u 3 4 5;"), 3,
                0, 1, 2, 3, 4, 5, 6);
        orders(of(ANY + "step a by o;step b by o;step c by o;step d by u 0 1 2;step e by o;step f by o;step g by u 4 5 0;step h by t 3 6;"),
                4, 0, 1, 2, 3, 4, 5, 6, 7);
        orders(of(ANY + "step a by o;step b by o;step c by o;step d by o;step e by u 1 2 3;step f by t 0 4;"), 3, 1, 2, 3, 4, 0, 5);
        orders(of(ANY + many(9, "step @ by o;") + "step j by u 6 7 8;step k by u 9 0 1;step l by u 10 2 3;step m by u 11 4 5;"), 3,
                6, 7, 8, 9, 0, 1, 10, 2, 3, 11, 4, 5, 12);
    }

    private static void fewestPages() {
        says("PAGES of p STEPS at most: THE REST cut one behind the other into the fewest pages;");
        LongProof x = of(TREE);
        int[] count = {7, 4, 3, 2, 2, 2, 1, 1};
        for (int p = 1; p <= 8; p++) {
            due("pages(" + p + ", 0)", x.pages(p, 0), count[p - 1]);
        }
        cuts(x, 1, 6, 0, 1, 2, 3, 4, 5, 6);
        cuts(x, 7, 0, 0);
        cuts(x, 40, 0, 0);
        LongProof forty = of(line(40));
        due("forty pages", forty.pages(1, 0), 40);
        due("39 look back", forty.pages(1, 1), 39);
        due("the last page", forty.pages(1, 41), 39);
        none("behind it", forty.pages(1, 42));
        due("two pages", forty.pages(39, 0), 2);
        due("one looks back", forty.pages(39, 1), 1);
        due("the earliest cut", forty.pages(39, 3), 1);
        due("one page", forty.pages(40, 0), 1);
    }

    private static void eachNaming() {
        says("of these the fewest times that a STEP names one on an earlier page (each naming counts, as THE REST leans);");
        cuts(of(ANY + "step a by o;step b by u 0 0 0;"), 1, 3, 0, 1);
        cuts(of(ANY + "step a by o;step a by o;step b by t 1 1;step c by s 2;"), 2, 1, 0, 2);
        cuts(of(ANY + "step a by o;step b by s 0;step a by s 1;step c by t 2 1;"), 2, 2, 0, 1);
        cuts(of(ANY + "step a by o;step b by u 0 0 0;step c by s 1;"), 2, 1, 0, 2);
        cuts(of(ANY + "step a by o;step b by s 0;step c by u 1 1 1;"), 2, 1, 0, 1);
    }

    private static void cutsEarliest() {
        says("of like ones the first cuts earliest.");
        cuts(of(TREE), 3, 4, 0, 1, 4);
        cuts(of(TREE), 6, 1, 0, 1);
        cuts(of(line(3)), 2, 1, 0, 1);
        cuts(of(line(5)), 2, 2, 0, 1, 3);
        cuts(of(line(5)), 3, 1, 0, 2);
        cuts(of(line(5)), 4, 1, 0, 1);
        cuts(of(line(7)), 3, 2, 0, 1, 4);
    }

    private static void fallen() {
        says("FALLEN is a STEP by such a RULE, or that leans on a FALLEN one.");
        LongProof x = of(ANY + "rule z gives ?x;step a by z;step b by s 0;step c by s 1;step a by o;step c by s 3;step d by t 3 2;");
        due("blame(4, true)", x.blame(4, true), 4);
        int[] want = {1, 1, 1, 0, 0, 1};
        for (int step = 0; step < 6; step++) {
            due("step(" + step + ", 7)", x.step(step, 7), want[step]);
        }
        due("one in the middle", of(line(40)).rule(1, 3), 39);
        due("the first one", of(line(40)).rule(0, 3), 40);
    }

    private static void theFewest() {
        says("THE FEWEST for the GOAL: a STEP may be taken for any one of its TERM: the fewest STEPS that hold one of the GOAL's TERM");
        fewest(of(ANY + "step a by o;"), 0);
        fewest(of(ANY + "step a by o;step b by s 0;step b by o;goal 1;"), 2);
        fewest(of(ANY + "step b by o;step a by o;step b by s 1;"), 0);
        fewest(of(TREE + "goal 4;"), 0, 1, 4);
        fewest(of(line(40)), 0, 1, 2, 3, 4, 5, 6, 7, 8, 9, 10, 11, 12, 13, 14, 15, 16, 17, 18, 19, 20, 21, 22, 23, 24, 25, 26, 27,
                28, 29, 30, 31, 32, 33, 34, 35, 36, 37, 38, 39);
        says("those of WRONG RULES left out.");
        LongProof x = of(ANY + "rule z gives ?x;step a by z;step b by s 0;step a by o;step c by t 0 1;step b by s 2;step c by t 2 4;");
        fewest(x, 0, 1, 3);
        x.blame(4, true);
        fewest(x, 2, 4, 5);
        x.blame(2, true);
        fewest(x);
        x.blame(4, false);
        fewest(x);
        x.blame(2, false);
        fewest(x, 0, 1, 3);
        x.blame(0, true);
        fewest(x, 0, 1, 3);
        LongProof first = of(ANY + "rule z gives ?x;step a by z;step b by o;step a by s 1;step a by o;step c by s 0;");
        fewest(first, 0, 4);
        first.blame(4, true);
        fewest(first, 3, 4);
    }

    private static void earlierNumber() {
        says("and with each for each named one some STEP of that TERM, of an earlier number than it;");
        LongProof x = of(ANY + "rule z gives ?x;step a by z;step b by s 0;step a by o;goal 1;");
        fewest(x, 0, 1);
        x.blame(4, true);
        fewest(x);
        LongProof y = of(ANY + "rule z gives ?x;step a by z;step c by o;step a by o;step b by s 0;");
        y.blame(4, true);
        fewest(y, 2, 3);
        fewest(of(ANY + "step a by o;step b by s 0;step a by s 1;step b by s 2;goal 3;"), 0, 1);
        LongProof itself = of(ANY + "rule z gives ?x;step a by z;step a by s 0;");
        fewest(itself, 0);
        itself.blame(4, true);
        fewest(itself);
    }

    private static String groups(int... sizes) {
        StringBuilder text = new StringBuilder("rule o gives ?x;rule z gives ?x;");
        for (int k = 0; k < sizes.length; k++) {
            text.append(many(sizes[k], "step " + (char) ('a' + k) + " by o;"));
        }
        return text.toString();
    }

    private static void ways() {
        says("It is searched when there are 4096 ways at most to take one STEP for each TERM (of STEPS that are not by WRONG RULES), "
                + "else not.");
        fewest(of(groups(2, 2, 2, 2, 2, 2, 2, 2, 2, 2, 2, 2)), 22);
        fewest(of(groups(8, 8, 8, 8)), 24);
        fewest(of(groups(4, 4, 4, 4, 4, 4, 1, 1)), 25);
        fewest(of(groups(3, 3, 5, 7, 13)), 18);
        fewest(of(groups(2, 2, 2, 3, 3, 3, 19)));
        fewest(of(groups(2, 2, 2, 2, 2, 2, 2, 2, 2, 2, 2, 2, 2)));
        fewest(of(groups(3, 3, 3, 3, 3, 3, 3, 3, 3, 3, 3, 3, 4)));
        fewest(of(groups(40)), 0);
        LongProof x = of(groups(2, 2, 2, 2, 2, 2, 2, 2, 2, 2, 2, 2) + "step y by z;step y by z;step x by o;");
        fewest(x);
        x.blame(1, true);
        fewest(x, 26);
        x.blame(1, false);
        fewest(x);
        x.blame(0, true);
        fewest(x);
    }

    private static void seenIs() {
        says("1000 less what is left of that, times (100 - odds) / 100 for each ASKED READER whose STEPS have it, by numbers, "
                + "the greatest whole number not above.");
        due("2, 4, 3: 980, 940, 911", seenBy(2, 4, 3), 89);
        due("2, 3, 4: 980, 950, 912", seenBy(2, 3, 4), 88);
        due("97, 50, 50, 33: 30, 15, 7, 4", seenBy(97, 50, 50, 33), 996);
        due("none", seenBy(), 0);
        due("0", seenBy(0), 0);
        due("100", seenBy(100), 1000);
        due("1", seenBy(1), 10);
        due("99", seenBy(99), 990);
        due("six times 0", seenBy(0, 0, 0, 0, 0, 0), 0);
        due("six times 99: 10, 0", seenBy(99, 99, 99, 99, 99, 99), 1000);
        due("six times 1: 990, 980, 970, 960, 950, 940", seenBy(1, 1, 1, 1, 1, 1), 60);
        LongProof x = of(ANY + many(3, "step a by o;") + "reader a odds 50 from 0 to 1;reader b odds 50 from 1 to 2;");
        x.ask(1, true);
        due("not of its STEPS", x.step(0, 10), 0);
        due("the first of its STEPS", x.step(1, 10), 500);
        due("the last of its STEPS", x.step(2, 10), 500);
        x.ask(0, true);
        due("of both", x.step(1, 10), 750);
        x.ask(1, false);
        due("not ASKED any more", x.step(2, 10), 0);
    }

    private static int seenBy(int... odds) {
        StringBuilder text = new StringBuilder(ANY + "step a by o;");
        for (int k = 0; k < odds.length; k++) {
            text.append("reader r").append((char) ('a' + k)).append(" odds ").append(odds[k]).append(" from 0 to 0;");
        }
        LongProof x = of(text.toString());
        for (int k = odds.length - 1; k >= 0; k--) {
            x.ask(k, true);
        }
        return x.step(0, 10);
    }

    private static void whomToAsk() {
        says("of READERS not ASKED that by whom the least SEEN of all NEEDED STEPS becomes greatest, the first of like ones.");
        LongProof x = of(ANY + "step a by o;step b by s 0;step z by o;goal 1;reader a odds 90 from 1 to 2;reader b odds 5 from 0 to 1;"
                + "reader c odds 6 from 0 to 2;reader d odds 6 from 0 to 1;reader e odds 99 from 2 to 2;");
        due("of like ones the first", x.whom(), 2);
        x.ask(2, true);
        due("the other one", x.whom(), 3);
        x.ask(3, true);
        due("then", x.whom(), 1);
        x.ask(1, true);
        due("none makes more of it: the first", x.whom(), 0);
        x.ask(0, true);
        due("the last one", x.whom(), 4);
        x.ask(4, true);
        none("all are ASKED", x.whom());
        x.ask(3, false);
        due("one is no more", x.whom(), 3);
        due("odds 0 of all: the first", of(ANY + "step a by o;" + many(6, "reader r@ odds 0 from 0 to 0;")).whom(), 0);
    }

    private static void aDraw() {
        says("A DRAW of m: x (the seed) becomes (1103515245 x + 12345) mod 2 to the 31; floor(x / 64) mod m.");
        for (int seed : new int[] {0, 1, 2, 12345, 1 << 30, MOST - 1, MOST}) {
            LongProof x = of(ANY + "step a by o;reader r odds 37 from 0 to 0;");
            x.ask(0, true);
            due("seed(" + seed + ")", x.seed(seed), true);
            long now = seed;
            for (int k = 0; k < 200; k++) {
                now = (1103515245L * now + 12345L) % 2147483648L;
                due("draw " + k + " from " + seed, x.trials(0, 1), now / 64 % 100 < 37 ? 1 : 0);
            }
        }
    }

    private static void trialsOf() {
        says("TRIALS of a STEP: in each, by numbers, a DRAW of 100 for each ASKED READER whose STEPS have it, below odds: it is seen.");
        LongProof x = of(ANY + "step a by o;step b by o;reader a odds 18 from 0 to 0;reader b odds 19 from 0 to 0;reader c odds 0 from 0 to 0;"
                + "reader d odds 100 from 0 to 1;");
        due("nobody is ASKED: no DRAW", x.trials(0, 1000), 0);
        x.ask(0, true);
        due("nobody's STEP: no DRAW", x.trials(1, 1000), 0);
        due("18 is not below 18", x.trials(0, 1), 0);
        x.seed(1);
        x.ask(0, false);
        x.ask(1, true);
        due("18 is below 19", x.trials(0, 1), 1);
        x.seed(1);
        x.ask(0, true);
        due("18 and 99, 26 and 80, 16 and 14", x.trials(0, 3), 1);
        x.seed(2147483646);
        due("5 and 34: a DRAW for the second though the first has seen it", x.trials(0, 1), 1);
        due("61 and 0", x.trials(0, 1), 1);
        due("97 and 26", x.trials(0, 1), 0);
        x.ask(0, false);
        x.ask(1, false);
        x.ask(2, true);
        due("odds 0", x.trials(0, 1000), 0);
        x.ask(3, true);
        due("odds 100", x.trials(0, 1000), 1000);
        due("odds 100 alone", x.trials(1, 1000), 1000);
    }

    private static String full() {
        return many(12, "rule @ gives ?@;") + many(12, "step a by @;") + many(6, "reader r@ odds 1 from 0 to 11;");
    }

    private static int check(int... bytes) {
        int c = 61;
        for (int each : bytes) {
            c = (7 * c + each) % 247;
        }
        return c;
    }

    private static void octets(LongProof x, int... want) {
        due("image()", x.image(), 4);
        for (int k = 0; k < want.length; k++) {
            due("octet(" + k + ")", x.octet(k), want[k]);
        }
    }

    private static void anImage() {
        says("WRONG RULES (two bytes of bits, the higher first); ASKED (a byte of bits); last a byte: all ahead from 61 on, "
                + "c = (7 c + it) mod 247.");
        octets(new LongProof(), 0, 0, 0, 175);
        LongProof x = of(full());
        for (int rule = 0; rule < 12; rule++) {
            x.blame(rule, true);
            int high = rule < 8 ? 0 : 1 << rule - 8;
            int low = rule < 8 ? 1 << rule : 0;
            octets(x, high, low, 0, check(high, low, 0));
            x.blame(rule, false);
        }
        for (int reader = 0; reader < 6; reader++) {
            x.ask(reader, true);
            octets(x, 0, 0, 1 << reader, check(0, 0, 1 << reader));
            x.ask(reader, false);
        }
        for (int rule = 0; rule < 12; rule++) {
            x.blame(rule, true);
            x.ask(rule / 2, true);
        }
        octets(x, 15, 255, 63, check(15, 255, 63));
    }

    private static boolean taken(LongProof x, int... octets) {
        byte[] bytes = new byte[octets.length];
        for (int k = 0; k < bytes.length; k++) {
            bytes[k] = (byte) octets[k];
        }
        Told.feedBytes(x, bytes);
        return x.on();
    }

    private static void imageThatIsTaken() {
        says("It is taken, if it is such, of RULES and READERS that there are.");
        for (int count = 0; count <= 12; count++) {
            int readers = count / 2;
            String text = many(count, "rule @ gives a;") + (count == 0 ? "" : "step a by a;")
                    + many(readers, "reader r@ odds 1 from 0 to 0;");
            LongProof x = of(text);
            for (int bit = 0; bit < 16; bit++) {
                int wrong = 1 << bit;
                due("RULE " + bit + " of " + count, taken(x, wrong >> 8, wrong & 255, 0, check(wrong >> 8, wrong & 255, 0)), bit < count);
            }
            for (int bit = 0; bit < 8; bit++) {
                due("READER " + bit + " of " + readers, taken(x, 0, 0, 1 << bit, check(0, 0, 1 << bit)), bit < readers);
            }
            int all = (1 << count) - 1;
            int asked = (1 << readers) - 1;
            due("all of " + count, taken(x, all >> 8, all & 255, asked, check(all >> 8, all & 255, asked)), true);
            due("WRONG RULES", x.has(11), count);
            due("ASKED", x.has(13), readers);
        }
    }

    private static void order() {
        Sentences.promise(27);
        says("The least that is ever HELD (k NONE), or the k-th STEP (by THE REST's numbers) in the first such ORDER; "
                + "NONE when there is none such, or THE REST has more than 14.");
        LongProof x = of(TREE + "step z by o;goal 6;");
        orders(x, 3, 0, 1, 2, 4, 3, 5, 6);
        for (int k : new int[] {-2, -3, 7, 8, 14, MOST, LOWEST}) {
            none("order(" + k + ")", x.order(k));
        }
        orders(of(ANY + "step z by o;step a by o;step y by o;step b by s 1;"), 1, 0, 1);
        none("without STEPS", of(ANY).order(NONE));
        none("without STEPS", of(ANY).order(0));
        due("fourteen", of(line(14)).order(13), 13);
        none("fifteen", of(line(15)).order(NONE));
        Told.tell(x, line(2));
        orders(x, 1, 0, 1);
        Told.tell(x, line(15));
        none("fifteen behind seven", x.order(NONE));
    }

    private static void held() {
        Sentences.promise(28);
        says("The most that is ever HELD when THE REST is told as it is numbered; NONE without STEPS.");
        none("a new one", new LongProof().held());
        none("without STEPS", of(ANY).held());
        due("one", of(ANY + "step a by o;").held(), 1);
        due("more than fourteen", of(line(15)).held(), 1);
        due("forty", of(line(40)).held(), 1);
        due("as it is numbered", of(TREE).held(), 4);
        due("THE REST alone", of(TREE + "goal 4;").held(), 2);
        LongProof wide = of("rule o gives ?x;rule k ?x,?y,?z gives ?w;step a by o;" + many(12, "step s@ by o;") + "step b by k 0 1 2;"
                + "step c by k 3 4 5;step d by k 6 7 8;step e by k 9 10 11;step f by k 13 14 15;step g by k 16 17 12;");
        due("thirteen leaves", wide.held(), 13);
    }

    private static void pages() {
        Sentences.promise(29);
        says("PAGES of p (1 .. 40): how many (what 0), how often one looks back (1), the first STEP (by THE REST's numbers) on page k "
                + "(2 and k). NONE when there is none such, or without STEPS.");
        LongProof x = of(ANY + "step z by o;" + "step a by o;step b by s 1;step c by s 2;");
        cuts(x, 1, 2, 0, 1, 2);
        cuts(x, 2, 1, 0, 1);
        cuts(x, 3, 0, 0);
        cuts(x, 40, 0, 0);
        for (int p : new int[] {-1, 0, 41, 42, MOST, LOWEST}) {
            for (int what = 0; what <= 2; what++) {
                none("pages(" + p + ", " + what + ")", x.pages(p, what));
            }
        }
        for (int what : new int[] {-1, -2, 5, 6, 42, MOST, LOWEST}) {
            none("pages(1, " + what + ")", x.pages(1, what));
        }
        none("without STEPS", of(ANY).pages(1, 0));
        none("without STEPS", of(ANY).pages(1, 1));
        none("without STEPS", of(ANY).pages(1, 2));
        none("a new one", new LongProof().pages(40, 0));
    }

    private static void blame() {
        Sentences.promise(30);
        says("A RULE is WRONG (or not): how many STEPS are FALLEN; NONE when there is none such.");
        LongProof x = of(full());
        for (int rule = 0; rule < 12; rule++) {
            due("blame(" + rule + ", true)", x.blame(rule, true), rule + 1);
        }
        due("again", x.blame(5, true), 12);
        for (int rule : new int[] {-1, 12, 13, 31, 32, 43, MOST, LOWEST}) {
            none("blame(" + rule + ", true)", x.blame(rule, true));
            none("blame(" + rule + ", false)", x.blame(rule, false));
        }
        due("all are WRONG", x.has(11), 12);
        due("blame(11, false)", x.blame(11, false), 11);
        due("again", x.blame(11, false), 11);
        due("blame(0, false)", x.blame(0, false), 10);
        due("without STEPS", of("rule r gives a;").blame(0, true), 0);
        none("without RULES", new LongProof().blame(0, true));
    }

    private static void stands() {
        Sentences.promise(31);
        says("Whether some STEP with the GOAL's TERM is not FALLEN: 1, 0; NONE without STEPS.");
        none("a new one", new LongProof().stands());
        none("without STEPS", of(ANY).stands());
        LongProof x = of(ANY + "rule z gives ?x;step g by o;step a by z;step g by s 1;step g by z;step b by o;goal 2;");
        due("all stand", x.stands(), 1);
        x.blame(4, true);
        due("the GOAL is FALLEN, an earlier one is not", x.stands(), 1);
        x.blame(0, true);
        due("all of its TERM are FALLEN", x.stands(), 0);
        x.blame(4, false);
        due("a later one is not", x.stands(), 1);
        x.blame(1, true);
        due("the last one is not", x.stands(), 1);
        x.blame(4, true);
        due("none", x.stands(), 0);
        LongProof other = of(ANY + "rule z gives ?x;step a by o;step g by z;step b by o;step g by z;goal 1;");
        other.blame(4, true);
        due("others are not FALLEN, but none of its TERM", other.stands(), 0);
        other.blame(4, false);
        other.blame(0, true);
        due("others are FALLEN", other.stands(), 1);
    }

    private static void fewest() {
        Sentences.promise(32);
        says("how many STEPS (k NONE), or the k-th by numbers of the first such set (by the least bits, a STEP's bit 1 for the first one, "
                + "2 for the second, ..);");
        fewest(of(ANY + "step a by o;step a by o;step b by s 1;step b by s 0;"), 0, 2);
        fewest(of(ANY + "step a by o;step b by o;step a by o;step b by o;step g by t 2 3;"), 0, 1, 4);
        fewest(of(ANY + "step x by o;step z by o;step a by s 0;step b by s 1;step b by s 0;step a by o;step g by t 2 3;"), 0, 2, 4, 6);
        fewest(of(ANY + "step a by o;step b by o;step d by s 1;step c by s 0;step g by s 2;step g by s 3;goal 4;"), 1, 2, 4);
        says("NONE without, or when it is not searched.");
        none("a new one", new LongProof().fewest(NONE));
        none("without STEPS", of(ANY).fewest(NONE));
        none("without STEPS", of(ANY).fewest(0));
        LongProof x = of(TREE);
        for (int k : new int[] {-2, 7, 8, 40, MOST, LOWEST}) {
            none("fewest(" + k + ")", x.fewest(k));
        }
        x.blame(0, true);
        fewest(x);
        fewest(of(groups(2, 2, 2, 2, 2, 2, 2, 2, 2, 2, 2, 2, 2)));
    }

    private static void ask() {
        Sentences.promise(33);
        says("A READER is ASKED (or not): how many are; NONE when there is none such.");
        LongProof x = of(full());
        for (int reader = 0; reader < 6; reader++) {
            due("ask(" + reader + ", true)", x.ask(reader, true), reader + 1);
        }
        due("again", x.ask(5, true), 6);
        for (int reader : new int[] {-1, 6, 7, 31, 32, 37, MOST, LOWEST}) {
            none("ask(" + reader + ", true)", x.ask(reader, true));
            none("ask(" + reader + ", false)", x.ask(reader, false));
        }
        due("all are ASKED", x.has(13), 6);
        due("ask(5, false)", x.ask(5, false), 5);
        due("again", x.ask(5, false), 5);
        due("ask(0, false)", x.ask(0, false), 4);
        none("without READERS", of(TREE).ask(0, true));
        none("a new one", new LongProof().ask(0, false));
    }

    private static void least() {
        Sentences.promise(34);
        says("The least SEEN of NEEDED STEPS (what 0), the first such STEP (1); NONE without STEPS, or for others.");
        LongProof x = of(TREE + "goal 5;reader a odds 40 from 3 to 5;reader b odds 30 from 2 to 2;reader c odds 90 from 5 to 6;");
        due("nobody is ASKED", x.least(0), 0);
        due("the first NEEDED one", x.least(1), 2);
        x.ask(1, true);
        due("least", x.least(0), 0);
        due("the first such", x.least(1), 3);
        x.ask(0, true);
        due("least", x.least(0), 300);
        due("the first such", x.least(1), 2);
        x.ask(2, true);
        x.ask(0, false);
        due("least", x.least(0), 0);
        due("the first such", x.least(1), 3);
        for (int what : new int[] {-1, 2, 3, MOST, LOWEST}) {
            none("least(" + what + ")", x.least(what));
        }
        none("without STEPS", of(ANY).least(0));
        none("without STEPS", of(ANY).least(1));
        none("a new one", new LongProof().least(0));
        LongProof all = of(ANY + "step a by o;step b by s 0;reader a odds 100 from 0 to 1;");
        all.ask(0, true);
        due("1000 of all", all.least(0), 1000);
        due("the first of like ones", all.least(1), 0);
    }

    private static void whom() {
        Sentences.promise(35);
        says("WHOM TO ASK; NONE when all are ASKED, or without STEPS.");
        none("a new one", new LongProof().whom());
        none("without STEPS", of(ANY).whom());
        none("without READERS", of(TREE).whom());
        LongProof x = of(full());
        for (int reader = 0; reader < 6; reader++) {
            due("whom()", x.whom(), reader);
            x.ask(reader, true);
        }
        none("all are ASKED", x.whom());
        x.ask(5, false);
        due("all but the last one", x.whom(), 5);
    }

    private static void seed() {
        Sentences.promise(36);
        says("The seed of TRIALS: true; false when it is below 0. (It is 1 at first.)");
        LongProof x = of(ANY + "step a by o;reader r odds 50 from 0 to 0;");
        x.ask(0, true);
        due("1 at first: 18 99 26 80 16 14", x.trials(0, 6), 4);
        due("seed(1)", x.seed(1), true);
        due("18 99 26 80 16 14", x.trials(0, 6), 4);
        x.seed(5);
        for (int seed : new int[] {-1, -2, -5, LOWEST, LOWEST + 1}) {
            due("seed(" + seed + ")", x.seed(seed), false);
        }
        due("5 stays: 57 74 45", x.trials(0, 3), 1);
        due("seed(0)", x.seed(0), true);
        due("92 21 71 20", x.trials(0, 4), 2);
        due("seed(most)", x.seed(MOST), true);
        due("99 12 16 60 26 10 83 71", x.trials(0, 8), 4);
        due("a new one", new LongProof().seed(0), true);
    }

    private static void trials() {
        Sentences.promise(37);
        says("n TRIALS (1 .. 1000) of a STEP: in how many it is seen; NONE when there is none such, or n can't be.");
        LongProof x = of(line(40) + "reader r odds 100 from 0 to 39;reader q odds 50 from 0 to 0;");
        x.ask(0, true);
        due("trials(0, 1)", x.trials(0, 1), 1);
        due("trials(39, 1)", x.trials(39, 1), 1);
        due("trials(0, 1000)", x.trials(0, 1000), 1000);
        for (int n : new int[] {0, -1, -1000, 1001, 1002, MOST, LOWEST}) {
            none("trials(0, " + n + ")", x.trials(0, n));
        }
        for (int step : new int[] {-1, 40, 41, 64, MOST, LOWEST}) {
            none("trials(" + step + ", 1)", x.trials(step, 1));
        }
        x.ask(0, false);
        x.ask(1, true);
        x.seed(1);
        none("refused", x.trials(0, 1001));
        none("refused", x.trials(40, 5));
        due("without a DRAW: 18 99 26", x.trials(0, 3), 2);
        none("without STEPS", of(ANY).trials(0, 1));
        none("a new one", new LongProof().trials(0, 1));
    }

    private static void image() {
        Sentences.promise(38);
        says("AN IMAGE is written: how many bytes.");
        due("a new one", new LongProof().image(), 4);
        LongProof x = of(full());
        due("none WRONG, none ASKED", x.image(), 4);
        for (int rule = 0; rule < 12; rule++) {
            x.blame(rule, true);
            x.ask(rule / 2, true);
        }
        due("all WRONG, all ASKED", x.image(), 4);
        due("has(11)", x.has(11), 12);
        due("has(13)", x.has(13), 6);
    }

    private static void octet() {
        Sentences.promise(39);
        says("Byte k of the latest image(); NONE when there is none such.");
        LongProof x = of(full());
        for (int k = -1; k < 5; k++) {
            none("ahead of any, octet(" + k + ")", x.octet(k));
        }
        x.blame(0, true);
        x.ask(5, true);
        octets(x, 0, 1, 32, check(0, 1, 32));
        x.blame(11, true);
        x.ask(5, false);
        due("of the latest image() yet", x.octet(0), 0);
        due("of the latest image() yet", x.octet(2), 32);
        octets(x, 8, 1, 0, check(8, 1, 0));
        for (int k : new int[] {-1, -2, 4, 5, 255, MOST, LOWEST}) {
            none("octet(" + k + ")", x.octet(k));
        }
        x.proof();
        due("another proof is no image()", x.octet(0), 8);
        taken(x, 0, 0, 0, 175);
        due("nor is on()", x.octet(0), 8);
    }

    private static void on() {
        Sentences.promise(40);
        says("The tape (it goes) is AN IMAGE: true, RULES are WRONG, READERS ASKED as it tells;");
        LongProof x = of(full());
        x.blame(3, true);
        x.ask(3, true);
        due("on()", taken(x, 8, 129, 33, check(8, 129, 33)), true);
        due("the tape goes", x.end(1), false);
        for (int rule = 0; rule < 12; rule++) {
            due("WRONG " + rule, x.rule(rule, 2), rule == 0 || rule == 7 || rule == 11 ? 1 : 0);
            due("FALLEN " + rule, x.step(rule, 7), rule == 0 || rule == 7 || rule == 11 ? 1 : 0);
        }
        due("ASKED", x.has(13), 2);
        due("SEEN by 0 and 5", x.step(0, 10), 20);
        due("THE FEWEST as it tells", x.fewest(0), 1);
        due("none of them", taken(x, 0, 0, 0, 175), true);
        due("none is WRONG", x.has(11), 0);
        due("none is ASKED", x.has(13), 0);
        due("THE FEWEST as it tells", x.fewest(0), 0);
        due("a new one", taken(new LongProof(), 0, 0, 0, 175), true);
    }

    private static void onRefused() {
        says("false when it is none (all stays).");
        for (int last = 0; last < 256; last++) {
            due("the last byte is " + last, taken(of(full()), 2, 1, 3, last), last == check(2, 1, 3));
        }
        LongProof x = of(full());
        x.blame(2, true);
        x.ask(2, true);
        x.seed(5);
        int[][] others = {{}, {0}, {0, 0}, {0, 0, 0}, {0, 0, 175}, {0, 0, 0, 174}, {0, 0, 0, 176}, {0, 0, 0, 175, 0},
            {0, 0, 0, 175, 32}, {0, 0, 0, 175, 0, 0, 0, 175}, {16, 0, 0, check(16, 0, 0)}, {128, 0, 0, check(128, 0, 0)},
            {0, 0, 64, check(0, 0, 64)}, {0, 0, 128, check(0, 0, 128)}, {255, 255, 255, check(255, 255, 255)}};
        for (int[] other : others) {
            due("on() of " + java.util.Arrays.toString(other), taken(x, other), false);
            due("the tape goes", x.end(1), false);
            due("WRONG stays", x.rule(2, 2), 1);
            due("WRONG RULES stay", x.has(11), 1);
            due("FALLEN stay", x.has(12), 1);
            due("ASKED stay", x.has(13), 1);
            due("SEEN stays", x.step(0, 10), 10);
        }
        for (int k = 0; k < 80; k++) {
            x.feed(0, 0, 0, 0, 0);
        }
        due("a full tape", x.on(), false);
        Told.tell(x, TREE + "reader r odds 50 from 0 to 0;");
        x.ask(0, true);
        due("the seed stays: 57 74 45 54", x.trials(0, 4), 1);
    }
}
