/** Each promise by itself, with answers worked out by hand: ordinary inputs, edges, wrong inputs. */
public final class PromisesTest {
    private static final int NONE = LongProof.NONE;
    private static final int MOST = Integer.MAX_VALUE;
    private static final int LOWEST = Integer.MIN_VALUE;

    /** NEEDED are 0 to 3; 2 is 0 told twice. */
    private static final String BASE = "rule ax gives p(a); rule ay gives p(b); rule f p(?x) gives q(?x,?x);"
            + "rule g q(?x,?y), p(?x) gives r(?y); rule any gives p(?z); step p(a) by ax; step q(a,a) by f 0;"
            + "step p(a) by any; step r(a) by g 1 2; step p(b) by ay; step q(b,b) by f 4; step r(b) by g 5 4;"
            + "goal 3; reader ann odds 50 from 0 to 3; reader bob odds 20 from 2 to 6;";

    /** Two leaves twice, each pair under one STEP, both under the GOAL. */
    private static final String TREE = "rule o gives ?x; rule k ?x, ?y gives ?z; step a by o; step b by o;"
            + "step c by o; step d by o; step e by k 0 1; step f by k 2 3; step g by k 4 5;";

    /** The GOAL's TERM and c are told in two ways. */
    private static final String TWO = "rule o gives ?x; rule t gives ?x; rule s ?x gives ?y; step a by o;"
            + "step b by s 0; step c by s 1; step g by s 2; step c by t; step g by s 4; goal 3;";

    /** One RULE without PREMISES and a chain by another. */
    private static final String CHAIN = "rule o gives a; rule s ?x gives f(?x); step a by o; step f(a) by s 0;"
            + "step f(f(a)) by s 1; step f(f(f(a))) by s 2; step f(f(f(f(a)))) by s 3;";

    /** Six times one RULE behind another, from STEPS that stand ahead of some of the six and behind others. */
    private static final String APART = "rule o gives ?x; rule s ?x gives ?y; rule t ?x gives ?y; step a by o;"
            + "step a by o; step a by s 0; step a by t 2; step a by s 1; step a by t 4; step a by o; step a by s 0;"
            + "step a by t 7; step a by s 6; step a by t 9; step a by s 6; step a by t 11; step a by s 3;"
            + "step a by t 13;";

    public static void main(String[] args) {
        newObject();
        feed();
        end();
        proof();
        fault();
        has();
        letter();
        rule();
        step();
        namesAndTerm();
        right();
        rest();
        uponAndDepth();
        loadAndCovers();
        vital();
        beside();
        runs();
        alike();
        worthAndLemma();
        orders();
        pages();
        blame();
        fewest();
        ways();
        ask();
        whom();
        trials();
        image();
        on();
        Told.close();
    }

    private static void due(String call, long got, long want) {
        Told.due(call, got, want);
    }

    private static void due(String call, boolean got, boolean want) {
        Told.due(call, got, want);
    }

    /** Promise 1. */
    private static void newObject() {
        LongProof x = new LongProof();
        for (int what = -2; what <= 15; what++) {
            due("has(" + what + ")", x.has(what), what < 0 || what > 13 || what == 5 ? NONE : 0);
        }
        due("NONE", LongProof.NONE, -1);
        due("rule(0, 0)", x.rule(0, 0), NONE);
        due("step(0, 0)", x.step(0, 0), NONE);
        due("wrong()", x.wrong(), NONE);
        due("held()", x.held(), NONE);
        due("stands()", x.stands(), NONE);
        due("fewest(-1)", x.fewest(NONE), NONE);
        due("whom()", x.whom(), NONE);
        due("end(0)", x.end(0), true);
        due("end(1)", x.end(1), false);
    }

    /** Promise 2. */
    private static void feed() {
        LongProof x = new LongProof();
        for (int k = 1; k <= 80; k++) {
            due("feed " + k, x.feed(0x20202020, 0x20202020, 0x20202020, 0x20202020, 0x20202020), 20 * k);
        }
        due("feed 81", x.feed(-1, -1, -1, -1, -1), NONE);
        due("end(1600)", x.end(1600), true);
        due("proof() of blanks", x.proof(), 0);
        due("feed", x.feed(0x72756c65, 0x20722067, 0x69766573, 0x20613b20, -1), 20);
        due("end(16)", x.end(16), true);
        due("feed behind 16", x.feed(0x72756c65, 0x20732067, 0x69766573, 0x20623b20, 0x20200a20), 36);
        due("proof() of two rules", x.proof(), 2);
        due("letter", x.letter(0, 1, 0), 19);
        for (int k = 0; k < 80; k++) {
            x.feed(0, 0, 0, 0, 0);
        }
        x.end(1581);
        due("feed behind 1581", x.feed(0, 0, 0, 0, 0), NONE);
        due("it did nothing", x.end(1582), false);
        x.end(1580);
        due("feed behind 1580", x.feed(0, 0, 0, 0, 0), 1600);
    }

    /** Promise 3. */
    private static void end() {
        LongProof x = new LongProof();
        due("end(-1)", x.end(-1), false);
        due("end(lowest)", x.end(LOWEST), false);
        x.feed(0, 0, 0, 0, 0);
        due("end(21)", x.end(21), false);
        due("end(most)", x.end(MOST), false);
        due("end(20)", x.end(20), true);
        due("end(-1) does nothing", x.end(-1), false);
        due("end(19)", x.end(19), true);
        due("end(20) of 19", x.end(20), false);
        due("end(0)", x.end(0), true);
        due("end(1) of 0", x.end(1), false);
        due("feed", x.feed(0, 0, 0, 0, 0), 20);
    }

    /** Promise 4. */
    private static void proof() {
        LongProof x = Told.of(BASE);
        x.blame(0, true);
        x.ask(1, true);
        x.seed(5);
        due("a fault", Told.tell(x, "step"), NONE);
        due("the tape went", x.end(1), false);
        due("wrong stays", x.has(11), 1);
        due("asked stays", x.has(13), 1);
        due("steps stay", x.has(1), 7);
        due("proof()", Told.tell(x, BASE), 15);
        due("the tape went", x.end(1), false);
        due("none wrong", x.has(11), 0);
        due("none fallen", x.has(12), 0);
        due("none asked", x.has(13), 0);
        x.ask(0, true);
        due("the seed stays: 57 74 45 54", x.trials(0, 4), 1);
        due("proof() of nothing", x.proof(), 0);
        due("has(0)", x.has(0), 0);
        due("has(2)", x.has(2), 0);
        due("has(3)", x.has(3), 0);
        due("has(4)", x.has(4), 0);
    }

    /** Promise 5; its kinds are in FaultsTest. */
    private static void fault() {
        LongProof x = new LongProof();
        due("fault(0) ahead of any", x.fault(0), 0);
        due("fault(1) ahead of any", x.fault(1), NONE);
        Told.tell(x, "rule r gives a; rule r gives b;");
        due("fault(0)", x.fault(0), 3);
        due("fault(1)", x.fault(1), 21);
        due("fault(2)", x.fault(2), NONE);
        due("fault(-1)", x.fault(-1), NONE);
        x.on();
        x.blame(0, true);
        due("fault(0) of the latest", x.fault(0), 3);
        Told.tell(x, BASE);
        due("fault(0) without", x.fault(0), 0);
        due("fault(1) without", x.fault(1), NONE);
    }

    /** Promise 6. */
    private static void has() {
        LongProof x = Told.of(BASE);
        int[] want = {5, 7, 2, 5, 3, 3, 7, 4, 1, 1, 3, 0, 0, 0};
        for (int what = 0; what < want.length; what++) {
            due("has(" + what + ")", x.has(what), want[what]);
        }
        due("has(14)", x.has(14), NONE);
        due("has(-1)", x.has(-1), NONE);
        due("has(most)", x.has(MOST), NONE);
        x.blame(4, true);
        x.blame(1, true);
        x.ask(1, true);
        due("has(11)", x.has(11), 2);
        due("has(12): 2 3 4 5 6", x.has(12), 5);
        due("has(13)", x.has(13), 1);
        due("goal without", Told.of(TREE).has(5), 6);
        due("the last goal", Told.of(TREE + "goal 2; goal 1; reader x odds 1 from 0 to 0;").has(5), 1);
        due("a goal ahead of steps", Told.of("rule o gives ?x; step a by o; goal 0; step b by o;").has(5), 0);
    }

    /** Promise 7. */
    private static void letter() {
        LongProof x = Told.of("rule abcdef gives z(y,?zyxwvu); step a by abcdef; reader q odds 1 from 0 to 0;");
        for (int k = 0; k < 6; k++) {
            due("letter(0, 0, " + k + ")", x.letter(0, 0, k), k + 1);
            due("letter(1, 0, " + k + ")", x.letter(1, 0, k), k == 0 ? 17 : 0);
            due("letter(3, 0, " + k + ")", x.letter(3, 0, k), 26 - k);
        }
        due("letter(2, 0, 0)", x.letter(2, 0, 0), 26);
        due("letter(2, 1, 0)", x.letter(2, 1, 0), 25);
        due("letter(2, 2, 0)", x.letter(2, 2, 0), 1);
        due("letter(2, 3, 0)", x.letter(2, 3, 0), NONE);
        due("letter(0, 1, 0)", x.letter(0, 1, 0), NONE);
        due("letter(1, 1, 0)", x.letter(1, 1, 0), NONE);
        due("letter(3, 1, 0)", x.letter(3, 1, 0), NONE);
        due("letter(0, -1, 0)", x.letter(0, -1, 0), NONE);
        due("letter(0, 0, 6)", x.letter(0, 0, 6), NONE);
        due("letter(0, 0, -1)", x.letter(0, 0, -1), NONE);
        due("letter(4, 0, 0)", x.letter(4, 0, 0), NONE);
        due("letter(-1, 0, 0)", x.letter(-1, 0, 0), NONE);
        due("letter(0, most, most)", x.letter(0, MOST, MOST), NONE);
    }

    /** Promise 8. */
    private static void rule() {
        LongProof x = Told.of(BASE);
        int[][] want = {{0, 1, 0, 3}, {0, 1, 0, 3}, {1, 2, 0, 4}, {2, 2, 0, 2}, {0, 1, 0, 2}};
        for (int rule = 0; rule < 5; rule++) {
            for (int what = 0; what < 4; what++) {
                due("rule(" + rule + ", " + what + ")", x.rule(rule, what), want[rule][what]);
            }
        }
        x.blame(2, true);
        due("rule(2, 2)", x.rule(2, 2), 1);
        due("rule(1, 2)", x.rule(1, 2), 0);
        due("by it alone", x.rule(4, 3), 2);
        due("rule(0, 4)", x.rule(0, 4), NONE);
        due("rule(0, -1)", x.rule(0, -1), NONE);
        due("rule(5, 0)", x.rule(5, 0), NONE);
        due("rule(-1, 0)", x.rule(-1, 0), NONE);
        due("rule(most, 3)", x.rule(MOST, 3), NONE);
    }

    /** Promise 9. */
    private static void step() {
        LongProof x = Told.of(BASE);
        x.ask(0, true);
        x.blame(4, true);
        int[] two = {4, 0, 1, 1, 0, 0, NONE, 1, 1, 2, 500};
        int[] three = {3, 2, 1, 1, 3, NONE, 2, 1, 0, 2, 500};
        int[] five = {2, 1, 1, 0, 5, NONE, NONE, 0, 1, 3, 0};
        for (int what = 0; what < two.length; what++) {
            due("step(2, " + what + ")", x.step(2, what), two[what]);
            due("step(3, " + what + ")", x.step(3, what), three[what]);
            due("step(5, " + what + ")", x.step(5, what), five[what]);
        }
        due("named by two steps", x.step(4, 8), 2);
        due("step(2, 11)", x.step(2, 11), NONE);
        due("step(2, -1)", x.step(2, -1), NONE);
        due("step(7, 0)", x.step(7, 0), NONE);
        due("step(-1, 0)", x.step(-1, 0), NONE);
        LongProof y = Told.of("rule o gives ?x; rule k ?x, ?y gives ?z; step a by o; step b by k 0 0;");
        due("named twice by one step", y.step(0, 8), 1);
        due("names twice", y.step(1, 1), 2);
    }

    /** Promises 10 and 11. */
    private static void namesAndTerm() {
        LongProof x = Told.of(BASE);
        due("names(3, 0)", x.names(3, 0), 1);
        due("names(3, 1)", x.names(3, 1), 2);
        due("names(3, 2)", x.names(3, 2), NONE);
        due("names(3, -1)", x.names(3, -1), NONE);
        due("names(0, 0)", x.names(0, 0), NONE);
        due("names(7, 0)", x.names(7, 0), NONE);
        due("names(-1, 0)", x.names(-1, 0), NONE);
        LongProof y = Told.of("rule o gives ?x; step f(g(?y,a),?x,?y) by o;");
        int[] want = {0, 1, 101, 2, 100, 101, NONE};
        for (int k = 0; k < want.length; k++) {
            due("term(0, " + k + ")", y.term(0, k), want[k]);
        }
        due("term(0, -1)", y.term(0, -1), NONE);
        due("term(0, most)", y.term(0, MOST), NONE);
        due("term(1, 0)", y.term(1, 0), NONE);
        due("term(-1, 0)", y.term(-1, 0), NONE);
        due("sizes", y.step(0, 9), 6);
    }

    /** Promise 12, and what is RIGHT, TWICE, COVERED. */
    private static void right() {
        due("none wrong", Told.of(BASE).wrong(), NONE);
        LongProof x = Told.of("rule o gives p(?x,?x); rule s p(?x,?y) gives p(?y,?x); rule d ?x, ?x gives d(?x);"
                + "rule n q gives a; step p(a,a) by o; step p(a,b) by o; step p(b,a) by s 1; step p(a,b) by s 0;"
                + "step d(p(a,b)) by d 1 3; step d(p(a,b)) by d 1 2; step p(?x,?x) by o; step p(?x,?y) by o;"
                + "step p(?y,?x) by s 7; step a by n 0; step p(f(?x),f(?x)) by o; step q by n 9;");
        int[] want = {1, 0, 1, 0, 1, 0, 1, 0, 1, 0, 1, 0};
        for (int k = 0; k < want.length; k++) {
            due("right " + k, x.step(k, 2), want[k]);
        }
        due("wrong()", x.wrong(), 1);
        due("has(6)", x.has(6), 6);
        LongProof y = Told.of("rule o gives ?x; step p(?x,b) by o; step p(?x,?y) by o; step p(a,b) by o;"
                + "step p(?y,b) by o; step p(?x,?y) by o; step ?z by o; step p(?x,?x) by o; step ?x by o;");
        int[] first = {0, 1, 2, 3, 1, 5, 6, 7};
        int[] covered = {NONE, NONE, 0, 0, 1, NONE, 1, 5};
        for (int k = 0; k < first.length; k++) {
            due("first " + k, y.step(k, 4), first[k]);
            due("covered " + k, y.step(k, 5), covered[k]);
        }
        due("TWICE", y.has(8), 1);
        due("COVERED", y.has(9), 5);
    }

    /** Promises 13 and 14. */
    private static void rest() {
        LongProof x = Told.of("rule o gives ?x; rule k ?x, ?y gives ?z; rule s ?x gives ?y; step a by o; step b by o;"
                + "step c by s 1; step a by s 2; step d by k 3 3; step d by k 1 2; step e by k 5 3; step e by o; goal 7;");
        due("has(10)", x.has(10), 3);
        due("rest(0)", x.rest(0), 0);
        due("rest(1)", x.rest(1), 4);
        due("rest(2)", x.rest(2), 6);
        due("rest(3)", x.rest(3), NONE);
        due("rest(-1)", x.rest(-1), NONE);
        due("rest(most)", x.rest(MOST), NONE);
        due("leans(0, 0)", x.leans(0, 0), NONE);
        due("leans(1, 0)", x.leans(1, 0), 0);
        due("leans(1, 1)", x.leans(1, 1), 0);
        due("leans(2, 0)", x.leans(2, 0), 1);
        due("leans(2, 1)", x.leans(2, 1), 0);
        due("leans(2, 2)", x.leans(2, 2), NONE);
        due("leans(2, -1)", x.leans(2, -1), NONE);
        due("leans(3, 0)", x.leans(3, 0), NONE);
        due("leans(-1, 0)", x.leans(-1, 0), NONE);
        LongProof forty = Told.of(line(40));
        due("leans(39, 0)", forty.leans(39, 0), 38);
        due("leans(40, 0)", forty.leans(40, 0), NONE);
        due("rest(39)", forty.rest(39), 39);
        due("rest(40)", forty.rest(40), NONE);
        Told.tell(forty, line(3));
        due("leans(3, 0) of fewer", forty.leans(3, 0), NONE);
        due("number of 4", x.step(4, 6), 1);
        due("number of 7", x.step(7, 6), NONE);
        due("needed", x.has(7), 1);
    }

    /** Promises 15 and 16. */
    private static void uponAndDepth() {
        LongProof x = Told.of(TREE);
        due("upon(6, 0)", x.upon(6, 0), 1);
        due("upon(6, 5)", x.upon(6, 5), 1);
        due("upon(5, 0)", x.upon(5, 0), 0);
        due("upon(0, 6)", x.upon(0, 6), 0);
        due("upon(6, 6)", x.upon(6, 6), 0);
        due("upon(7, 0)", x.upon(7, 0), NONE);
        due("upon(0, 7)", x.upon(0, 7), NONE);
        due("upon(-1, 0)", x.upon(-1, 0), NONE);
        due("upon(0, -1)", x.upon(0, -1), NONE);
        due("depth(0)", x.depth(0), 1);
        due("depth(4)", x.depth(4), 2);
        due("depth(6)", x.depth(6), 3);
        due("depth(7)", x.depth(7), NONE);
        due("depth(-1)", x.depth(-1), NONE);
        due("the deepest counts", Told.of("rule o gives ?x; rule s ?x gives ?y; rule k ?x, ?y gives ?z; step a by o;"
                + "step b by s 0; step c by s 1; step d by k 2 0;").depth(3), 4);
    }

    /** Promises 17 and 18. */
    private static void loadAndCovers() {
        LongProof x = Told.of(BASE);
        int[] load = {2, 1, 1, 0, 0, 0, 0};
        for (int k = 0; k < load.length; k++) {
            due("load(" + k + ")", x.load(k), load[k]);
        }
        due("load(7)", x.load(7), NONE);
        due("load(-1)", x.load(-1), NONE);
        LongProof y = Told.of("rule o gives ?x; step p(?x) by o; step p(a) by o; step p(a) by o; step ?y by o;"
                + "step p(b) by o; step q by o;");
        int[] covers = {3, 1, 0, 2, 0, 0};
        for (int k = 0; k < covers.length; k++) {
            due("covers(" + k + ")", y.covers(k), covers[k]);
        }
        due("covers(6)", y.covers(6), NONE);
        due("covers(-1)", y.covers(-1), NONE);
    }

    /** Promises 19 and 20. */
    private static void vital() {
        LongProof x = Told.of(BASE);
        int[] want = {1, 1, 0, 1, 0, 0, 0};
        for (int k = 0; k < want.length; k++) {
            due("vital(" + k + ")", x.vital(k), want[k]);
        }
        due("vital(7)", x.vital(7), NONE);
        due("vital(-1)", x.vital(-1), NONE);
        due("vitals(0)", x.vitals(0), 0);
        due("vitals(1)", x.vitals(1), 1);
        due("vitals(2)", x.vitals(2), 3);
        due("vitals(3)", x.vitals(3), NONE);
        due("vitals(-1)", x.vitals(-1), NONE);
        x.blame(4, true);
        due("wrong rules do not count", x.vital(2), 0);
        LongProof y = Told.of(TWO);
        due("two ways", y.vitals(0), NONE);
        LongProof z = Told.of("rule o gives ?x; rule s ?x gives ?y; step a by o; step b by s 0; step b by o;"
                + "step c by s 1; goal 3;");
        due("another one of its term, later but ahead", z.vital(1), 0);
        due("the leaf of it", z.vital(0), 0);
        due("the goal", z.vital(3), 1);
        due("vitals", z.vitals(1), NONE);
        LongProof w = Told.of("rule o gives ?x; rule s ?x gives ?y; step a by o; step b by s 0; step a by o; goal 1;");
        due("another one of its term, but behind", w.vital(0), 1);
    }

    /** Promises 21 and 22. */
    private static void beside() {
        LongProof x = Told.of("rule o gives ?x; step f(a,b,g(a)) by o; step f(b,a,g(b)) by o; step f(?x,?x,?y) by o;"
                + "step f(?x,a,?y) by o; step h by o; step f(g(a),g(b),g(a)) by o; step f(g(b),g(a),g(b)) by o;");
        sides(x, 0, 1, 0, 200, 201, 3, 200);
        sides(x, 1, 0, 0, 200, 201, 3, 200);
        sides(x, 0, 2, 0, 200, 201, 202);
        sides(x, 2, 3, 0, 100, 200, 101);
        sides(x, 0, 4, 200);
        sides(x, 4, 4, 4);
        sides(x, 2, 2, 0, 100, 100, 101);
        sides(x, 5, 6, 0, 3, 200, 3, 201, 3, 200);
        due("beside(0, 1, 3)", x.beside(0, 1, 3), NONE);
        due("beside(0, 1, -1)", x.beside(0, 1, -1), NONE);
        due("beside(7, 0, 0)", x.beside(7, 0, 0), NONE);
        due("beside(0, 7, 0)", x.beside(0, 7, 0), NONE);
        due("beside(-1, 0, 0)", x.beside(-1, 0, 0), NONE);
        due("common(0, -1, 0)", x.common(0, -1, 0), NONE);
        due("common(7, 0, 0)", x.common(7, 0, 0), NONE);
        due("common(0, 1, most)", x.common(0, 1, MOST), NONE);
    }

    private static void sides(LongProof x, int first, int second, int... cells) {
        int made = 0;
        int unlike = 0;
        for (int k = 0; k < cells.length; k++) {
            due("common(" + first + ", " + second + ", " + k + ")", x.common(first, second, k), cells[k]);
            made += cells[k] >= 200 ? 1 : 0;
            unlike = Math.max(unlike, cells[k] - 199);
        }
        due("common behind it", x.common(first, second, cells.length), NONE);
        due("common ahead of it", x.common(first, second, -1), NONE);
        due("beside 0", x.beside(first, second, 0), cells.length);
        due("beside 1", x.beside(first, second, 1), made);
        due("beside 2", x.beside(first, second, 2), unlike);
    }

    /** Promise 23. */
    private static void runs() {
        LongProof x = Told.of(TREE);
        due("run(0, 2)", x.run(0, 2), 0);
        due("run(3, 2)", x.run(3, 2), 0);
        due("run(5, 2)", x.run(5, 2), 1);
        due("run(4, 3)", x.run(4, 3), 1);
        due("run(0, 5)", x.run(0, 5), 0);
        due("run(0, 7)", x.run(0, 7), 1);
        due("run(0, 8)", x.run(0, 8), NONE);
        due("run(5, 3)", x.run(5, 3), NONE);
        due("run(6, 2)", x.run(6, 2), NONE);
        due("run(-1, 2)", x.run(-1, 2), NONE);
        due("run(0, 1)", x.run(0, 1), NONE);
        due("run(0, 9)", x.run(0, 9), NONE);
        due("run(most, 2)", x.run(MOST, 2), NONE);
        due("run(0, most)", x.run(0, MOST), NONE);
        due("run(0, lowest)", x.run(0, LOWEST), NONE);
        LongProof y = Told.of("rule o gives a; step a by o; step a by o; step a by o; step a by o; step a by o;"
                + "step a by o; step a by o; step a by o; step a by o;");
        due("eight", y.run(1, 8), 1);
        due("nine", y.run(0, 9), NONE);
        due("the goal does not name", Told.of(CHAIN + "goal 1;").run(1, 2), 1);
    }

    /** Promise 24. */
    private static void alike() {
        LongProof x = Told.of(CHAIN);
        due("the later one names the earlier one's last", x.alike(1, 3, 2), 0);
        due("the later one first", x.alike(3, 1, 2), 0);
        due("alike(0, 3, 2)", x.alike(0, 3, 2), 0);
        due("alike(1, 2, 2)", x.alike(1, 2, 2), NONE);
        due("alike(1, 1, 2)", x.alike(1, 1, 2), NONE);
        due("alike(1, 4, 2)", x.alike(1, 4, 2), NONE);
        due("alike(-1, 2, 2)", x.alike(-1, 2, 2), NONE);
        due("alike(0, 2, 1)", x.alike(0, 2, 1), NONE);
        due("alike(0, 9, 9)", x.alike(0, 9, 9), NONE);
        due("alike(lowest, most, 2)", x.alike(LOWEST, MOST, 2), NONE);
        LongProof y = Told.of("rule o gives ?x; rule k ?x, ?y gives ?z; step a by o; step b by o; step c by k 1 0;"
                + "step b by o; step c by k 3 0; step b by o; step c by k 0 5; step b by o; step c by k 7 7;"
                + "step b by o; step c by k 0 0;");
        due("the same places", y.alike(1, 3, 2), 1);
        due("inside and ahead, but not in the same order", y.alike(1, 5, 2), 0);
        due("inside where the other one is ahead", y.alike(1, 7, 2), 0);
        due("ahead where the other one is inside", y.alike(1, 9, 2), 0);
        due("no run", Told.of(TREE).alike(0, 5, 2), NONE);
        LongProof z = Told.of("rule o gives ?x; rule k ?x, ?y gives ?z; step a by o; step b by o; step c by k 0 1;"
                + "step a by o; step b by o; step c by k 4 3; step a by o; step b by o; step c by k 6 7;");
        due("other places", z.alike(0, 3, 3), 0);
        due("like places", z.alike(0, 6, 3), 1);
        LongProof w = Told.of(APART);
        due("other ones, both ahead of both", w.alike(2, 4, 2), 1);
        due("the later one first", w.alike(4, 2, 2), 1);
        due("one ahead of both for both", w.alike(2, 7, 2), 1);
        due("behind the earlier one, ahead of the later one", w.alike(2, 9, 2), 0);
        due("between them, the later one first", w.alike(9, 2, 2), 0);
        due("ahead of both, though behind others", w.alike(9, 11, 2), 1);
        due("between those", w.alike(7, 11, 2), 1);
        due("the last one of the earlier", w.alike(2, 13, 2), 0);
        due("the last one of one that is earlier than both", w.alike(4, 13, 2), 1);
    }

    /** Promises 25 and 26. */
    private static void worthAndLemma() {
        LongProof x = Told.of(CHAIN);
        due("worth(1, 2): once", x.worth(1, 2), -1);
        due("worth(3, 2): alike to none", x.worth(3, 2), -1);
        due("worth(2, 2): once", x.worth(2, 2), -1);
        due("worth(0, 2): once", x.worth(0, 2), -1);
        due("worth(0, 9)", x.worth(0, 9), NONE);
        due("worth(4, 2)", x.worth(4, 2), NONE);
        due("worth(-1, 2)", x.worth(-1, 2), NONE);
        due("no lemma", x.lemma(0), NONE);
        due("no lemma", x.lemma(2), NONE);
        StringBuilder same = new StringBuilder("rule o gives a;");
        for (int k = 0; k < 12; k++) {
            same.append("step a by o;");
        }
        LongProof y = Told.of(same.toString());
        due("six of two", y.worth(0, 2), 4);
        due("five of two", y.worth(1, 2), 3);
        due("alike to one ahead", y.worth(2, 2), NONE);
        due("four of three", y.worth(0, 3), 5);
        due("three of three", y.worth(1, 3), 3);
        due("three of four", y.worth(0, 4), 5);
        due("two of five", y.worth(0, 5), 3);
        due("two of six", y.worth(0, 6), 4);
        due("one of seven", y.worth(0, 7), -1);
        due("one of eight", y.worth(3, 8), -1);
        due("lemma(0)", y.lemma(0), 0);
        due("lemma(1): the shortest", y.lemma(1), 3);
        due("lemma(2)", y.lemma(2), 5);
        due("lemma(3)", y.lemma(3), NONE);
        due("lemma(-1)", y.lemma(-1), NONE);
        Told.tell(y, CHAIN);
        due("no lemma of another proof", y.lemma(0), NONE);
        StringBuilder eight = new StringBuilder("rule o gives ?x; rule s ?x gives ?y;");
        for (int k = 0; k < 24; k++) {
            eight.append(k % 8 == 0 ? "step a by o;" : "step a by s " + (k - 1 - (k % 8 == 7 ? 6 : 0)) + ";");
        }
        LongProof w = Told.of(eight.toString());
        due("three of eight", w.worth(0, 8), 13);
        due("lemma(0) of eight", w.lemma(0), 0);
        due("lemma(1) of eight", w.lemma(1), 8);
        due("lemma(2) of eight", w.lemma(2), 13);
        LongProof z = Told.of("rule o gives ?x; rule u gives ?x; rule v gives ?x; step a by u; step a by v;"
                + "step a by u; step a by o; step a by o; step a by o; step a by o; step a by o; step a by o;"
                + "step a by u; step a by v; step a by o; step a by u; step a by v; step a by u; step a by v;");
        due("where none counted goes on", z.worth(0, 2), 2);
        due("three of two", z.worth(3, 2), 1);
        due("the first of like ones", z.lemma(0), 0);
        due("its length", z.lemma(1), 2);
        worthOfThoseApart();
    }

    private static void worthOfThoseApart() {
        LongProof x = Told.of(APART);
        due("three of which what is named is ahead of both", x.worth(2, 2), 1);
        due("alike to the first", x.worth(4, 2), NONE);
        due("alike to the third, not to the first", x.worth(9, 2), NONE);
        due("alike to the second, not to the first", x.worth(13, 2), NONE);
        due("two of four", x.worth(7, 4), 2);
        due("where the lemma begins", x.lemma(0), 7);
        due("its length", x.lemma(1), 4);
        due("its worth", x.lemma(2), 2);
    }

    /** Promises 27 and 28. */
    private static void orders() {
        LongProof x = Told.of(TREE);
        int[] want = {NONE, 3, 0, 1, 2, 4, 3, 5, 6, NONE};
        for (int k = -2; k < 8; k++) {
            due("order(" + k + ")", x.order(k), want[k + 2]);
        }
        due("held()", x.held(), 4);
        due("one", Told.of(BASE + "goal 0;").order(NONE), 1);
        due("order(most)", x.order(MOST), NONE);
        due("order(lowest)", x.order(LOWEST), NONE);
        LongProof fourteen = Told.of(line(14));
        due("fourteen", fourteen.order(NONE), 1);
        due("fourteen", fourteen.order(13), 13);
        due("held of fourteen", fourteen.held(), 1);
        LongProof fifteen = Told.of(line(15));
        due("fifteen", fifteen.order(NONE), NONE);
        due("fifteen", fifteen.order(0), NONE);
        due("held of fifteen", fifteen.held(), 1);
        due("held of forty", Told.of(line(40)).held(), 1);
        due("no steps", Told.of("rule r gives a;").order(NONE), NONE);
        due("no steps", Told.of("rule r gives a;").held(), NONE);
        LongProof wide = Told.of("rule o gives ?x; rule k ?x, ?y, ?z gives ?w; step a by o; step b by o; step c by o;"
                + "step d by o; step e by o; step f by o; step g by o; step h by o; step i by o; step j by k 6 7 8;"
                + "step k by k 3 4 5; step l by k 0 1 2; step m by k 9 10 11;");
        int[] best = {5, 0, 1, 2, 3, 4, 11, 5, 6, 10, 7, 8, 9, 12};
        for (int k = 0; k < best.length; k++) {
            due("wide order " + (k - 1), wide.order(k - 1), best[k]);
        }
        due("wide held", wide.held(), 9);
    }

    private static String line(int steps) {
        StringBuilder text = new StringBuilder("rule o gives ?x; rule s ?x gives ?y; step a by o;");
        for (int k = 1; k < steps; k++) {
            text.append("step ").append(k < 20 ? "" : "m(").append(k % 20 < 10 ? "" : "n(")
                    .append((char) ('a' + k % 10)).append(k % 20 < 10 ? "" : ")").append(k < 20 ? "" : ")")
                    .append(" by s ").append(k - 1).append(";");
        }
        return text.toString();
    }

    /** Promise 29. */
    private static void pages() {
        LongProof x = Told.of(TREE);
        int[] want = {NONE, 3, 4, 0, 1, 4, NONE};
        for (int what = -1; what < 6; what++) {
            due("pages(3, " + what + ")", x.pages(3, what), want[what + 1]);
        }
        due("pages(1, 0)", x.pages(1, 0), 7);
        due("pages(1, 1)", x.pages(1, 1), 6);
        due("pages(1, 8)", x.pages(1, 8), 6);
        due("pages(1, 9)", x.pages(1, 9), NONE);
        due("pages(7, 0)", x.pages(7, 0), 1);
        due("pages(7, 1)", x.pages(7, 1), 0);
        due("pages(40, 2)", x.pages(40, 2), 0);
        due("pages(40, 3)", x.pages(40, 3), NONE);
        due("pages(41, 0)", x.pages(41, 0), NONE);
        due("pages(0, 0)", x.pages(0, 0), NONE);
        due("pages(-1, 0)", x.pages(-1, 0), NONE);
        due("pages(3, most)", x.pages(3, MOST), NONE);
        due("pages(most, 0)", x.pages(MOST, 0), NONE);
        due("pages(3, lowest)", x.pages(3, LOWEST), NONE);
        due("no steps", Told.of("").pages(3, 0), NONE);
        LongProof twice = Told.of("rule o gives ?x; rule k ?x, ?y gives ?z; step a by o; step b by k 0 0;");
        due("each naming counts", twice.pages(1, 1), 2);
        LongProof rest = Told.of("rule o gives ?x; rule s ?x gives ?y; step a by o; step a by o; step b by s 1; step c by s 2;");
        due("as the rest leans", rest.pages(2, 0), 2);
        due("as the rest leans", rest.pages(2, 1), 1);
        due("as the rest leans", rest.pages(2, 3), 1);
    }

    /** Promises 30 and 31. */
    private static void blame() {
        LongProof x = Told.of(TWO);
        due("stands", x.stands(), 1);
        due("blame t", x.blame(1, true), 2);
        due("stands by the other one", x.stands(), 1);
        due("blame o too", x.blame(0, true), 6);
        due("stands no more", x.stands(), 0);
        due("blame again", x.blame(0, true), 6);
        due("t is right again", x.blame(1, false), 4);
        due("stands by the later one", x.stands(), 1);
        due("blame s", x.blame(2, true), 5);
        due("stands no more", x.stands(), 0);
        due("blame(3, true)", x.blame(3, true), NONE);
        due("blame(-1, true)", x.blame(-1, true), NONE);
        due("blame(most, false)", x.blame(MOST, false), NONE);
        due("two wrong", x.has(11), 2);
        due("fallen 4", x.step(4, 7), 0);
        due("fallen 5", x.step(5, 7), 1);
        due("blame without steps", Told.of("rule r gives a;").blame(0, true), 0);
        due("stands without steps", Told.of("rule r gives a;").stands(), NONE);
    }

    /** Promise 32. */
    private static void fewest() {
        LongProof x = Told.of(TWO);
        due("fewest(-1)", x.fewest(NONE), 2);
        due("fewest(0)", x.fewest(0), 4);
        due("fewest(1)", x.fewest(1), 5);
        due("fewest(2)", x.fewest(2), NONE);
        due("fewest(-2)", x.fewest(-2), NONE);
        due("fewest(most)", x.fewest(MOST), NONE);
        x.blame(1, true);
        due("without t", x.fewest(NONE), 4);
        due("the least bits", x.fewest(3), 3);
        x.blame(0, true);
        due("without o and t", x.fewest(NONE), NONE);
        due("without o and t", x.fewest(0), NONE);
        x.blame(1, false);
        due("without o", x.fewest(NONE), 2);
        x.blame(2, true);
        due("without s", x.fewest(NONE), NONE);
        due("no steps", Told.of("rule r gives a;").fewest(NONE), NONE);
        LongProof y = Told.of("rule o gives ?x; rule s ?x gives ?y; step a by o; step b by s 0; step a by o; step c by s 2;"
                + "step d by s 3; step d by s 1;");
        due("like many: the least bits", y.fewest(NONE), 3);
        due("like many: the least bits", y.fewest(0), 0);
        due("like many: the least bits", y.fewest(1), 3);
        due("like many: the least bits", y.fewest(2), 4);
        LongProof like = Told.of("rule o gives ?x; rule s ?x gives ?y; rule k ?x,?y gives ?z; step x by o; step z by o;"
                + "step a by s 0; step b by s 1; step b by s 0; step a by o; step g by k 2 3;");
        int[] least = {4, 0, 2, 4, 6, NONE};
        for (int k = -1; k < 5; k++) {
            due("the least bits, fewest(" + k + ")", like.fewest(k), least[k + 1]);
        }
        LongProof z = Told.of("rule o gives ?x; rule v gives ?x; rule s ?x gives ?y; step a by v; step b by s 0;"
                + "step a by o; step c by s 0;");
        due("a later one of that term", z.blame(1, true), 3);
        due("it is ahead", z.fewest(NONE), 2);
        due("it is ahead", z.fewest(0), 2);
        Told.tell(z, "rule o gives ?x; rule v gives ?x; rule s ?x gives ?y; step a by v; step b by s 0; step a by o; goal 1;");
        z.blame(1, true);
        due("it is behind", z.fewest(NONE), NONE);
    }

    /** Promise 32: 4096 ways at most. */
    private static void ways() {
        StringBuilder text = new StringBuilder("rule o gives ?x; rule w gives ?x;");
        for (int k = 0; k < 12; k++) {
            text.append("step ").append((char) ('a' + k)).append(" by o;");
            text.append("step ").append((char) ('a' + k)).append(" by o;");
        }
        due("4096 ways", Told.of(text.toString()).fewest(NONE), 1);
        due("4096 ways", Told.of(text.toString()).fewest(0), 22);
        due("4096 ways and one more term", Told.of(text + "step m by o;").fewest(0), 24);
        LongProof x = Told.of(text + "step m by o; step m by w;");
        due("8192 ways", x.fewest(NONE), NONE);
        due("8192 ways", x.fewest(0), NONE);
        x.blame(1, true);
        due("4096 ways again", x.fewest(0), 24);
        x.blame(1, false);
        x.blame(0, true);
        due("one way", x.fewest(0), 25);
        due("4097 ways and more", Told.of(text + "step m by o; step m by o; step m by o;").fewest(NONE), NONE);
    }

    /** Promises 33 and 34. */
    private static void ask() {
        LongProof x = Told.of(BASE);
        due("least(0)", x.least(0), 0);
        due("least(1)", x.least(1), 0);
        due("ask(1, true)", x.ask(1, true), 1);
        due("least(0)", x.least(0), 0);
        due("seen 2", x.step(2, 10), 200);
        due("seen 6", x.step(6, 10), 200);
        due("seen 1", x.step(1, 10), 0);
        due("ask(0, true)", x.ask(0, true), 2);
        due("ask(0, true)", x.ask(0, true), 2);
        due("seen 2", x.step(2, 10), 600);
        due("least(0)", x.least(0), 500);
        due("least(1)", x.least(1), 0);
        due("ask(1, false)", x.ask(1, false), 1);
        due("ask(1, false)", x.ask(1, false), 1);
        due("ask(2, true)", x.ask(2, true), NONE);
        due("ask(-1, true)", x.ask(-1, true), NONE);
        due("least(2)", x.least(2), NONE);
        due("least(-1)", x.least(-1), NONE);
        due("least without steps", Told.of("").least(0), NONE);
        LongProof y = Told.of("rule o gives ?x; step a by o; reader a odds 97 from 0 to 0; reader b odds 50 from 0 to 0;"
                + "reader c odds 50 from 0 to 0; reader d odds 33 from 0 to 0;");
        for (int k = 0; k < 4; k++) {
            y.ask(k, true);
        }
        due("30, 15, 7, 4 are left", y.least(0), 996);
        LongProof z = Told.of(TREE + "reader u odds 100 from 1 to 6; reader v odds 30 from 0 to 0;");
        z.ask(0, true);
        due("all of it", z.step(3, 10), 1000);
        due("the first least", z.least(1), 0);
        z.ask(1, true);
        due("least", z.least(0), 300);
        z.ask(0, false);
        due("least", z.least(0), 0);
        due("the first least", z.least(1), 1);
    }

    /** Promise 35. */
    private static void whom() {
        LongProof x = Told.of(BASE);
        due("whom()", x.whom(), 0);
        x.ask(0, true);
        due("whom()", x.whom(), 1);
        x.ask(1, true);
        due("all are asked", x.whom(), NONE);
        due("no readers", Told.of(TREE).whom(), NONE);
        due("no steps", new LongProof().whom(), NONE);
        LongProof y = Told.of(TREE + "reader a odds 90 from 0 to 5; reader b odds 5 from 0 to 6; reader c odds 9 from 0 to 6;"
                + "reader d odds 9 from 0 to 6;");
        due("the first of like ones", y.whom(), 2);
        y.ask(2, true);
        due("then the other one", y.whom(), 3);
        y.ask(3, true);
        due("then", y.whom(), 1);
        y.ask(1, true);
        due("though it is no more", y.whom(), 0);
        LongProof needed = Told.of(BASE + "reader cat odds 60 from 4 to 6; reader dan odds 10 from 0 to 3;");
        needed.ask(0, true);
        due("needed ones alone", needed.whom(), 3);
    }

    /** Promises 36 and 37. */
    private static void trials() {
        LongProof x = Told.of(BASE);
        x.ask(0, true);
        due("18 99 26 80", x.trials(0, 4), 2);
        due("16 14", x.trials(0, 2), 2);
        due("nobody looks", x.trials(6, 1000), 0);
        due("68 52 41 19", x.trials(0, 4), 2);
        x.ask(1, true);
        due("seed(1)", x.seed(1), true);
        due("two readers", x.trials(2, 6), 4);
        due("seed(-1)", x.seed(-1), false);
        due("seed(lowest)", x.seed(LOWEST), false);
        due("seed(0)", x.seed(0), true);
        due("92 21", x.trials(0, 2), 1);
        x.seed(MOST);
        due("99 12 16 60 26 10", x.trials(0, 6), 4);
        due("trials(0, 0)", x.trials(0, 0), NONE);
        due("trials(0, -1)", x.trials(0, -1), NONE);
        due("trials(0, 1001)", x.trials(0, 1001), NONE);
        due("trials(7, 1)", x.trials(7, 1), NONE);
        due("trials(-1, 1)", x.trials(-1, 1), NONE);
        x.seed(5);
        due("refused", x.trials(0, 1001), NONE);
        due("no draw was made: 57 74 45 54 32", x.trials(0, 5), 2);
        LongProof y = Told.of("rule o gives ?x; step a by o; reader a odds 18 from 0 to 0; reader b odds 19 from 0 to 0;"
                + "reader c odds 0 from 0 to 0; reader d odds 100 from 0 to 0;");
        y.ask(0, true);
        due("18 is not below 18", y.trials(0, 1), 0);
        y.ask(0, false);
        y.ask(1, true);
        y.seed(1);
        due("18 is below 19", y.trials(0, 1), 1);
        y.ask(1, false);
        y.ask(2, true);
        due("never", y.trials(0, 1000), 0);
        y.ask(3, true);
        due("always", y.trials(0, 1000), 1000);
    }

    /** Promises 38 and 39. */
    private static void image() {
        LongProof x = Told.of(tenRules());
        due("octet ahead of any", x.octet(0), NONE);
        due("image()", x.image(), 4);
        due("empty", x.octet(3), 175);
        x.blame(0, true);
        x.blame(9, true);
        x.ask(1, true);
        due("of the latest image", x.octet(0), 0);
        due("image()", x.image(), 4);
        int[] want = {2, 1, 2, 35};
        for (int k = 0; k < 4; k++) {
            due("octet(" + k + ")", x.octet(k), want[k]);
        }
        due("octet(4)", x.octet(4), NONE);
        due("octet(-1)", x.octet(-1), NONE);
        due("octet(most)", x.octet(MOST), NONE);
        Told.tell(x, TREE);
        due("the image stays", x.octet(3), 35);
    }

    private static String tenRules() {
        StringBuilder text = new StringBuilder();
        for (int k = 0; k < 10; k++) {
            text.append("rule r").append((char) ('a' + k)).append(" gives a;");
        }
        return text + "step a by ra; step a by rj; step a by rb; reader u odds 1 from 0 to 0; reader v odds 1 from 0 to 0;";
    }

    /** Promise 40. */
    private static void on() {
        LongProof x = Told.of(tenRules());
        x.blame(3, true);
        x.ask(0, true);
        taken(x, true, 2, 1, 2, 35);
        due("wrong 0", x.rule(0, 2), 1);
        due("wrong 9", x.rule(9, 2), 1);
        due("wrong 3", x.rule(3, 2), 0);
        due("fallen", x.has(12), 2);
        due("stands", x.stands(), 1);
        due("fewest", x.fewest(0), 2);
        due("asked", x.has(13), 1);
        due("least", x.least(0), 0);
        taken(x, false, 2, 1, 2, 36);
        taken(x, false, 2, 1, 2, 35 + 247 - 256 & 255);
        taken(x, false, 2, 1, 2);
        taken(x, false);
        taken(x, false, 2, 1, 2, 35, 0);
        taken(x, false, 4, 1, 2, check(4, 1, 2));
        taken(x, false, 0, 0, 4, check(0, 0, 4));
        taken(x, false, 128, 0, 0, check(128, 0, 0));
        taken(x, false, 0, 0, 128, check(0, 0, 128));
        due("all stays", x.has(11), 2);
        due("all stays", x.has(13), 1);
        taken(x, true, 3, 255, 3, check(3, 255, 3));
        due("all wrong", x.has(11), 10);
        due("all fallen", x.has(12), 3);
        due("fewest", x.fewest(0), NONE);
        taken(x, true, 0, 0, 0, 175);
        due("none wrong", x.has(11), 0);
        due("fewest again", x.fewest(0), 0);
        LongProof y = new LongProof();
        taken(y, true, 0, 0, 0, 175);
        taken(y, false, 0, 1, 0, check(0, 1, 0));
        taken(y, false, 0, 0, 1, check(0, 0, 1));
    }

    private static int check(int... bytes) {
        int c = 61;
        for (int each : bytes) {
            c = (7 * c + each) % 247;
        }
        return c;
    }

    private static void taken(LongProof x, boolean want, int... octets) {
        byte[] bytes = new byte[octets.length];
        for (int k = 0; k < bytes.length; k++) {
            bytes[k] = (byte) octets[k];
        }
        Told.feedBytes(x, bytes);
        due("on() of " + java.util.Arrays.toString(octets), x.on(), want);
        due("the tape goes", x.end(1), false);
    }
}
