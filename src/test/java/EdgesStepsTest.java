/** Terms II and promises 13 to 26: each sentence that names a boundary, with a test of its own. */
public final class EdgesStepsTest {
    private static final int NONE = LongProof.NONE;
    private static final int MOST = Integer.MAX_VALUE;
    private static final int LOWEST = Integer.MIN_VALUE;
    private static final int[] NO_STEP = {-1, -2, 7, 8, 40, 64, MOST, LOWEST};

    /** Seven STEPS: two leaves twice, each pair under one STEP, both under the GOAL. */
    private static final String TREE = "rule o gives ?x;rule k ?x,?y gives ?z;step a by o;step b by o;step c by o;"
            + "step d by o;step e by k 0 1;step f by k 2 3;step g by k 4 5;";

    /** RULES of each number of PREMISES that take and give anything. */
    private static final String ANY = "rule o gives ?x;rule s ?x gives ?y;rule t ?x,?y gives ?z;rule u ?x,?y,?z gives ?w;";

    public static void main(String[] args) {
        Sentences.terms();
        right();
        themselves();
        needed();
        twice();
        covered();
        theRest();
        sideBySide();
        pairsAlike();
        aRun();
        noStepInCommon();
        sameRules();
        aheadOfBoth();
        worthCounts();
        rest();
        leans();
        upon();
        depth();
        load();
        covers();
        vital();
        vitals();
        beside();
        common();
        run();
        alike();
        worth();
        lemma();
        Sentences.close(13, 26);
    }

    private static void says(String words) {
        Sentences.says(words);
    }

    private static void due(String call, long got, long want) {
        Sentences.due(call, got, want);
    }

    private static void none(String call, long got) {
        Sentences.none(call, got);
    }

    private static LongProof of(String text) {
        return Sentences.of(text);
    }

    private static String many(int count, String one) {
        return Sentences.many(count, one);
    }

    private static String chain(int count) {
        return ANY + "step a by o;" + many(count - 1, "step a by s #;");
    }

    private static void steps(String what, LongProof x, int... want) {
        for (int step = 0; step < want.length; step++) {
            int got = switch (what) {
                case "right" -> x.step(step, 2);
                case "needed" -> x.step(step, 3);
                case "first" -> x.step(step, 4);
                case "coverer" -> x.step(step, 5);
                case "load" -> x.load(step);
                case "covers" -> x.covers(step);
                case "vital" -> x.vital(step);
                default -> x.depth(step);
            };
            due(what + " " + step, got, want[step]);
        }
        due("STEPS", x.has(1), want.length);
    }

    private static void right() {
        says("if there are TERMS for the HOLES of its RULE by which the PREMISES, one by one, are just the TERMS of the STEPS "
                + "that it names, and what the RULE gives is its TERM");
        steps("right", of("rule o gives f(?x,g(?y),?x);step f(a,g(b),a) by o;step f(g(a),g(g(b)),g(a)) by o;step f(a,g(a),a) by o;"
                + "step f(a,g(b),b) by o;step f(a,b,a) by o;step a by o;step f(g(a),g(a),g(b)) by o;"), 1, 1, 1, 0, 0, 0, 0);
        steps("right", of("rule o gives a;rule s a gives b;step a by o;step b by s 0;step b by s 1;step a by s 0;step b by o;"),
                1, 1, 0, 0, 0);
        steps("right", of("rule o gives ?x;rule d ?x,?x gives ?x;step a by o;step b by o;step a by d 0 0;step a by d 0 1;"
                + "step a by d 1 0;step b by d 0 0;step b by d 1 1;"), 1, 1, 1, 0, 0, 0, 1);
        steps("right", of("rule o gives ?x;rule u f(?x),?y,g(?y,?x) gives h(?x,?y,?z);step f(a) by o;step b by o;step g(b,a) by o;"
                + "step h(a,b,c) by u 0 1 2;step h(b,a,c) by u 0 1 2;step h(a,b,c) by u 0 2 1;step g(a,b) by o;step h(a,b,c) by u 0 1 6;"),
                1, 1, 1, 1, 0, 0, 1, 0);
    }

    private static void themselves() {
        says("(HOLES of these TERMS stand for themselves)");
        steps("right", of("rule o gives p(a);rule w gives p(?x);rule d ?x,?x gives q(?x);step p(?x) by o;step p(?y) by w;step p(?x) by w;"
                + "step p(f(?x)) by w;step q(p(?y)) by d 1 1;step q(p(?y)) by d 1 2;step q(p(?x)) by d 1 1;step ?x by w;"),
                0, 1, 1, 1, 1, 0, 0, 0);
        steps("right", of("rule w gives p(?x,?y);rule s p(?x,?y) gives p(?y,?x);step p(?y,?x) by w;step p(?x,?y) by s 0;"
                + "step p(?y,?x) by s 0;step p(?x,?x) by w;step p(?x,?x) by s 3;"), 1, 1, 0, 1, 1);
    }

    private static void needed() {
        says("NEEDED are the GOAL and all on which a NEEDED one leans.");
        steps("needed", of(TREE), 1, 1, 1, 1, 1, 1, 1);
        steps("needed", of(TREE + "goal 0;"), 1, 0, 0, 0, 0, 0, 0);
        steps("needed", of(TREE + "goal 4;"), 1, 1, 0, 0, 1, 0, 0);
        steps("needed", of(ANY + "step a by o;step b by o;step a by s 0;step c by s 2;"), 1, 0, 1, 1);
        due("forty in a row", of(chain(40)).has(7), 40);
        due("none without STEPS", of(ANY).has(7), 0);
    }

    private static void twice() {
        says("TWICE is a STEP whose TERM an earlier one has.");
        LongProof x = of("rule o gives ?x;step f(a) by o;step f(b) by o;step f(a) by o;step f(?x) by o;step f(?y) by o;step f(a) by o;"
                + "step f(?y) by o;step a by o;step f(f(a)) by o;");
        steps("first", x, 0, 1, 0, 3, 4, 0, 4, 7, 8);
        due("TWICE", x.has(8), 3);
        due("one alone", of("rule o gives ?x;step a by o;").has(8), 0);
    }

    private static void covered() {
        says("COVERED is a STEP by an earlier one, if there are TERMS for the HOLES of that one's TERM by which that is its own.");
        LongProof x = of("rule o gives ?x;step f(?x,?x) by o;step f(a,a) by o;step f(a,b) by o;step f(?y,?y) by o;step f(?y,?x) by o;"
                + "step f(?x,?y) by o;step f(a,a) by o;step ?z by o;step a by o;step ?z by o;");
        steps("coverer", x, NONE, 0, NONE, 0, NONE, 4, 0, NONE, 7, 7);
        due("COVERED", x.has(9), 6);
        steps("coverer", of("rule o gives ?x;step f(a) by o;step f(?x) by o;step ?x by o;"), NONE, NONE, NONE);
        steps("coverer", of("rule o gives ?x;step f(?x,g(?x)) by o;step f(g(?x),g(g(?x))) by o;step f(?y,g(?x)) by o;step f(?x,?x) by o;"),
                NONE, 0, NONE, NONE);
    }

    private static void theRest() {
        says("each STEP is taken for the first one with its TERM; from the GOAL's on all on which one leans, by the first ones' own RULES; "
                + "in their order, renumbered from 0 on.");
        LongProof x = of(ANY + "step a by o;step b by o;step c by s 1;step a by s 2;step d by t 3 3;step d by t 1 2;step e by t 5 3;"
                + "step e by o;goal 7;");
        due("how many", x.has(10), 3);
        due("rest(0)", x.rest(0), 0);
        due("rest(1)", x.rest(1), 4);
        due("the GOAL is taken for the first one", x.rest(2), 6);
        due("the GOAL's number", x.step(7, 6), NONE);
        due("the first one's number", x.step(6, 6), 2);
        due("the first one's own", x.leans(2, 1), 0);
        due("one of forty alike", of(chain(40)).has(10), 1);
        due("none without STEPS", of(ANY).has(10), 0);
        due("a GOAL ahead of most", of(TREE + "goal 1;").rest(0), 1);
    }

    private static void sideBySide() {
        says("sign by sign, where both have the same SIGN or HOLE, it stands; where not, a hole for both parts,");
        LongProof x = of("rule o gives ?x;step f(a,?x,g(?y)) by o;step f(a,?x,g(?x)) by o;step f(a,g(a),?y) by o;step a by o;step ?x by o;"
                + "step ?y by o;");
        given(x, 0, 0, 0, 1, 100, 2, 101);
        given(x, 0, 1, 0, 1, 100, 2, 200);
        given(x, 0, 2, 0, 1, 200, 201);
        given(x, 0, 3, 200);
        given(x, 3, 4, 200);
        given(x, 4, 5, 200);
        given(x, 4, 4, 100);
        given(x, 3, 3, 1);
    }

    private static void pairsAlike() {
        says("one for each pair of parts that is unlike another pair (two pairs are alike, if the first ones are and the second ones are).");
        LongProof x = of("rule o gives ?x;step f(a,b,a) by o;step f(b,a,b) by o;step f(b,b,b) by o;step f(a,a,b) by o;step f(g(a),g(b),g(a)) by o;"
                + "step f(b,b,b) by o;step f(a,b,g(a)) by o;step f(b,?x,b) by o;step f(?x,b,?x) by o;");
        given(x, 0, 1, 0, 200, 201, 200);
        given(x, 0, 2, 0, 200, 2, 200);
        given(x, 0, 3, 0, 1, 200, 201);
        given(x, 4, 5, 0, 200, 201, 200);
        given(x, 5, 4, 0, 200, 201, 200);
        given(x, 6, 2, 0, 200, 2, 201);
        given(x, 7, 8, 0, 200, 201, 200);
        LongProof wide = of("rule o gives ?x;step f(f(a,b,c),f(a,b,c),f(a,b,c)) by o;step f(f(d,d,d),f(e,e,e),f(d,b,e)) by o;");
        given(wide, 0, 1, 0, 0, 200, 201, 202, 0, 203, 204, 205, 0, 200, 2, 205);
    }

    private static void given(LongProof x, int first, int second, int... cells) {
        int made = 0;
        int unlike = 0;
        for (int k = 0; k < cells.length; k++) {
            due("common(" + first + ", " + second + ", " + k + ")", x.common(first, second, k), cells[k]);
            made += cells[k] >= 200 ? 1 : 0;
            unlike = Math.max(unlike, cells[k] - 199);
        }
        none("behind it", x.common(first, second, cells.length));
        due("beside(" + first + ", " + second + ", 0)", x.beside(first, second, 0), cells.length);
        due("beside(" + first + ", " + second + ", 1)", x.beside(first, second, 1), made);
        due("beside(" + first + ", " + second + ", 2)", x.beside(first, second, 2), unlike);
    }

    private static void aRun() {
        says("A RUN of n STEPS (2 .. 8) from one on: its STEPS but the last are named by none outside of it.");
        LongProof x = of(ANY + "step a by o;step a by s 0;step a by s 0;step a by s 2;step a by s 2;step a by s 4;step a by s 4;");
        due("named inside alone, but for the last", x.run(3, 2), 1);
        due("its first is named outside", x.run(0, 2), 0);
        due("named inside twice", x.run(0, 3), 1);
        due("its last is named outside", x.run(1, 2), 1);
        due("its first is named right behind it", x.run(2, 2), 0);
        due("that one in it", x.run(2, 3), 1);
        due("one in the middle is named outside", x.run(1, 3), 0);
        due("all of seven", x.run(0, 7), 1);
        due("all but the last one", x.run(0, 6), 0);
        LongProof forty = of(chain(40));
        for (int n = 2; n <= 8; n++) {
            due("the first " + n, forty.run(0, n), 1);
            due("the last " + n, forty.run(40 - n, n), 1);
        }
        due("being the GOAL is no naming", of(TREE + "goal 5;").run(5, 2), 1);
    }

    private static void noStepInCommon() {
        says("Two RUNS that have no STEP in common are ALIKE,");
        LongProof x = of("rule o gives a;" + many(16, "step a by o;"));
        for (int n = 2; n <= 8; n++) {
            due("side by side, " + n, x.alike(0, n, n), 1);
            due("side by side, the later one first, " + n, x.alike(n, 0, n), 1);
            none("one in common, " + n, x.alike(0, n - 1, n));
            none("one in common, the later one first, " + n, x.alike(n - 1, 0, n));
            none("all in common, " + n, x.alike(1, 1, n));
        }
    }

    private static void sameRules() {
        says("if STEP by STEP their RULES are the same,");
        LongProof x = of("rule o gives ?x;rule p gives ?x;step a by o;step a by p;step b by o;step c by p;step a by p;step a by o;"
                + "step a by o;step a by o;");
        due("the same", x.alike(0, 2, 2), 1);
        due("in another order", x.alike(0, 4, 2), 0);
        due("the first is another", x.alike(0, 4, 2), 0);
        due("the last is another", x.alike(0, 6, 2), 0);
        due("unlike TERMS do not count", x.alike(0, 2, 2), 1);
    }

    private static void aheadOfBoth() {
        says("and each named STEP is in the same place of both RUNS, or ahead of both.");
        LongProof x = of(ANY + "step a by o;step b by o;step c by s 0;step c by s 2;step c by s 1;step c by s 4;step c by s 3;step c by s 6;"
                + "step c by s 0;step c by s 0;step c by s 5;step c by s 10;");
        due("unlike ones, ahead of both", x.alike(2, 4, 2), 1);
        due("a STEP of the earlier one, the last", x.alike(2, 6, 2), 0);
        due("and the later one first", x.alike(6, 2, 2), 0);
        due("ahead, where the other one is inside", x.alike(2, 8, 2), 0);
        due("between the two", x.alike(2, 10, 2), 0);
        due("right ahead of the earlier one", x.alike(6, 10, 2), 1);
        due("the last of one that is ahead of both", x.alike(4, 6, 2), 1);
        LongProof y = of(ANY + "step a by o;step a by o;step a by o;step a by t 1 2;step a by o;step a by o;step a by t 5 4;step a by o;"
                + "step a by o;step a by t 7 8;step a by o;step a by o;step a by t 0 11;step a by o;step a by o;step a by t 13 13;");
        due("the same places", y.alike(1, 7, 3), 1);
        due("other places", y.alike(1, 4, 3), 0);
        due("ahead of both in one, inside in the other", y.alike(1, 10, 3), 0);
        due("the one place twice", y.alike(1, 13, 3), 0);
    }

    private static void worthCounts() {
        says("WORTH of a RUN that is ALIKE to none ahead of it: r times (n - 1) less n, where r counts it and then, from its end on, "
                + "each ALIKE one that begins where none counted goes on.");
        LongProof x = of("rule o gives a;rule p gives a;" + many(5, "step a by o;") + "step a by p;" + many(4, "step a by o;"));
        due("at 0, 2, 6 and 8", x.worth(0, 2), 4 * 1 - 2);
        due("at 1, 3, 6 and 8", x.worth(1, 2), 4 * 1 - 2);
        none("ALIKE to the one at 0", x.worth(2, 2));
        due("none else", x.worth(4, 2), 1 * 1 - 2);
        due("at 0 and 6", x.worth(0, 3), 2 * 2 - 3);
        due("at 1 and 6", x.worth(1, 3), 2 * 2 - 3);
        due("at 0 and 6", x.worth(0, 4), 2 * 3 - 4);
        due("once", x.worth(0, 5), 1 * 4 - 5);
        due("once, eight", x.worth(0, 8), 1 * 7 - 8);
        LongProof forty = of("rule o gives a;" + many(40, "step a by o;"));
        for (int n = 2; n <= 8; n++) {
            due("forty, " + n, forty.worth(0, n), 40 / n * (n - 1) - n);
            due("thirty-nine, " + n, forty.worth(1, n), 39 / n * (n - 1) - n);
            none("behind the first, " + n, forty.worth(n, n));
        }
        due("the last one that meets the first", forty.worth(7, 8), 33 / 8 * 7 - 8);
    }

    private static void rest() {
        Sentences.promise(13);
        says("The k-th STEP of THE REST; NONE when there is none such.");
        LongProof x = of(TREE + "goal 5;");
        due("rest(0)", x.rest(0), 2);
        due("rest(2)", x.rest(2), 5);
        for (int k : new int[] {-1, 3, 4, 40, MOST, LOWEST}) {
            none("rest(" + k + ")", x.rest(k));
        }
        none("without STEPS", of(ANY).rest(0));
        LongProof forty = of(unlike(40));
        due("rest(39) of forty", forty.rest(39), 39);
        none("rest(40) of forty", forty.rest(40));
        Told.tell(forty, TREE);
        due("rest(6) of seven", forty.rest(6), 6);
        none("rest(7) of seven", forty.rest(7));
    }

    /** STEPS of unlike TERMS, each on the one ahead of it. */
    private static String unlike(int count) {
        StringBuilder text = new StringBuilder(ANY + "step a by o;");
        for (int k = 1; k < count; k++) {
            text.append("step w(").append((char) ('a' + k / 7)).append(',').append((char) ('a' + k % 7)).append(") by s ");
            text.append(k - 1).append(';');
        }
        return text.toString();
    }

    private static void leans() {
        Sentences.promise(14);
        says("as THE REST numbers it; NONE when there is none such.");
        LongProof x = of(ANY + "step z by o;step a by o;step b by s 1;step a by s 2;step c by u 3 2 1;step d by t 4 3;goal 5;");
        int[][] want = {{}, {0}, {0, 1, 0}, {2, 0}};
        for (int number = 0; number < 4; number++) {
            for (int k = 0; k < want[number].length; k++) {
                due("leans(" + number + ", " + k + ")", x.leans(number, k), want[number][k]);
            }
            for (int k : new int[] {-1, want[number].length, 3, MOST, LOWEST}) {
                none("leans(" + number + ", " + k + ")", x.leans(number, k));
            }
        }
        for (int number : new int[] {-1, 4, 5, 40, MOST, LOWEST}) {
            none("leans(" + number + ", 0)", x.leans(number, 0));
        }
        none("without STEPS", of(ANY).leans(0, 0));
        LongProof forty = of(unlike(40));
        due("leans(39, 0) of forty", forty.leans(39, 0), 38);
        none("leans(40, 0) of forty", forty.leans(40, 0));
    }

    private static void upon() {
        Sentences.promise(15);
        says("Whether a STEP leans on another one, from one on to the next: 1, 0; NONE when there are none such.");
        LongProof x = of(TREE);
        due("on one that it names", x.upon(6, 4), 1);
        due("from one on to the next", x.upon(6, 0), 1);
        due("not on another one", x.upon(5, 0), 0);
        due("not the other way", x.upon(0, 6), 0);
        due("not on itself", x.upon(6, 6), 0);
        for (int step : NO_STEP) {
            none("upon(" + step + ", 0)", x.upon(step, 0));
            none("upon(6, " + step + ")", x.upon(6, step));
            none("upon(" + step + ", " + step + ")", x.upon(step, step));
        }
        LongProof forty = of(chain(40));
        due("the last on the first of forty", forty.upon(39, 0), 1);
        due("the first on the last of forty", forty.upon(0, 39), 0);
        none("upon(40, 0)", forty.upon(40, 0));
        none("upon(0, 40)", forty.upon(0, 40));
    }

    private static void depth() {
        Sentences.promise(16);
        says("1 more than the deepest that it names, 1 when it names none; NONE when there is none such.");
        steps("depth", of(TREE), 1, 1, 1, 1, 2, 2, 3);
        steps("depth", of(ANY + "step a by o;step a by s 0;step a by s 1;step a by u 0 2 1;step a by t 0 0;step a by u 4 1 0;"),
                1, 2, 3, 4, 2, 3);
        due("forty", of(chain(40)).depth(39), 40);
        for (int step : NO_STEP) {
            none("depth(" + step + ")", of(TREE).depth(step));
        }
        none("without STEPS", of(ANY).depth(0));
    }

    private static void load() {
        Sentences.promise(17);
        says("How many NEEDED STEPS lean on a STEP, from one on to the next; NONE when there is none such.");
        steps("load", of(TREE), 2, 2, 2, 2, 1, 1, 0);
        steps("load", of(TREE + "goal 4;"), 1, 1, 0, 0, 0, 0, 0);
        steps("load", of(TREE + "goal 0;"), 0, 0, 0, 0, 0, 0, 0);
        due("39 of forty", of(chain(40)).load(0), 39);
        due("none on the last of forty", of(chain(40)).load(39), 0);
        for (int step : NO_STEP) {
            none("load(" + step + ")", of(TREE).load(step));
        }
        none("without STEPS", of(ANY).load(0));
    }

    private static void covers() {
        Sentences.promise(18);
        says("How many later STEPS a STEP covers; NONE when there is none such.");
        LongProof x = of(ANY + "step f(a) by o;step f(?x) by o;step f(a) by o;step ?x by o;step f(?y) by o;step f(f(a)) by o;step a by o;");
        steps("covers", x, 1, 3, 0, 3, 1, 0, 0);
        due("39 of forty", of(chain(40)).covers(0), 39);
        due("none behind the last", of(chain(40)).covers(39), 0);
        for (int step : NO_STEP) {
            none("covers(" + step + ")", x.covers(step));
        }
        none("without STEPS", of(ANY).covers(0));
    }

    private static void vital() {
        Sentences.promise(19);
        says("proved is what a STEP not left out has, of which all that it names is proved by STEPS of earlier numbers than it "
                + "(any of those TERMS): 1, 0; NONE when there is none such.");
        steps("vital", of(TREE), 1, 1, 1, 1, 1, 1, 1);
        steps("vital", of(TREE + "goal 4;"), 1, 1, 0, 0, 1, 0, 0);
        steps("vital", of(ANY + "step a by o;step b by s 0;step a by o;step c by s 1;goal 3;"), 1, 1, 0, 1);
        steps("vital", of(ANY + "step a by o;step a by o;step b by s 0;step c by s 2;goal 3;"), 0, 0, 1, 1);
        steps("vital", of(ANY + "step a by o;step b by s 0;step a by o;step b by s 0;step c by s 1;goal 4;"), 0, 0, 0, 0, 1);
        steps("vital", of(ANY + "step a by o;step b by s 0;step b by o;goal 1;"), 0, 0, 0);
        steps("vital", of(ANY + "step a by o;step a by s 0;goal 1;"), 1, 0);
        for (int step : NO_STEP) {
            none("vital(" + step + ")", of(TREE).vital(step));
        }
        none("without STEPS", of(ANY).vital(0));
    }

    private static void vitals() {
        Sentences.promise(20);
        says("The k-th STEP that is vital; NONE when there is none such.");
        LongProof x = of(TREE + "goal 5;");
        due("vitals(0)", x.vitals(0), 2);
        due("vitals(1)", x.vitals(1), 3);
        due("vitals(2)", x.vitals(2), 5);
        for (int k : new int[] {-1, 3, 4, 40, MOST, LOWEST}) {
            none("vitals(" + k + ")", x.vitals(k));
        }
        none("none is vital", of(ANY + "step a by o;step a by o;").vitals(0));
        none("without STEPS", of(ANY).vitals(0));
        LongProof forty = of(unlike(40));
        due("vitals(39) of forty", forty.vitals(39), 39);
        none("vitals(40) of forty", forty.vitals(40));
    }

    /** A TERM of 24 SIGNS, 16 of them its ends. */
    private static String wide(String ends) {
        StringBuilder text = new StringBuilder("f(f(f(#,#,#),f(#,#,#),f(#,#,#)),f(#,#,#),h(#,f(#,#,#)))");
        for (int k = 0; k < ends.length(); k++) {
            text.setCharAt(text.indexOf("#"), ends.charAt(k));
        }
        return text.toString();
    }

    private static void beside() {
        Sentences.promise(21);
        says("how many SIGNS and HOLES (what 0; holes made count), how many of these are holes made (1, each where it stands), "
                + "how many unlike holes made (2).");
        LongProof x = of("rule o gives ?x;step f(a,b,a) by o;step f(b,?x,b) by o;step f(f(a,a,a),b,a) by o;step c by o;");
        given(x, 0, 0, 0, 1, 2, 1);
        given(x, 0, 1, 0, 200, 201, 200);
        given(x, 0, 2, 0, 200, 2, 1);
        given(x, 2, 0, 0, 200, 2, 1);
        given(x, 2, 3, 200);
        given(x, 3, 3, 3);
        LongProof most = of("rule o gives f(f(a,b,c),d,h(e,i));step " + wide("aaaabbbbccccdddd") + " by o;step " + wide("eiklmeiklmeiklme")
                + " by o;step " + wide("eiklmeiklmeiklma") + " by o;");
        given(most, 0, 1, 0, 0, 0, 200, 201, 202, 0, 203, 204, 205, 0, 206, 207, 208, 0, 209, 210, 211, 5, 212, 0, 213, 214, 215);
        given(most, 1, 2, 0, 0, 0, 6, 7, 8, 0, 9, 10, 6, 0, 7, 8, 9, 0, 10, 6, 7, 5, 8, 0, 9, 10, 200);
        int[][] pairs = {{0, 0, 4, 0, 0}, {0, 1, 4, 3, 2}, {2, 3, 1, 1, 1}, {0, 2, 4, 1, 1}, {2, 2, 7, 0, 0}};
        for (int what = 0; what < 3; what++) {
            for (int[] pair : pairs) {
                due("beside " + pair[0] + " and " + pair[1], x.beside(pair[0], pair[1], what), pair[2 + what]);
            }
        }
        says("NONE when there are none such, or for others.");
        for (int step : new int[] {-1, 4, 5, 40, MOST, LOWEST}) {
            for (int what = 0; what <= 2; what++) {
                none("beside(" + step + ", 0, " + what + ")", x.beside(step, 0, what));
                none("beside(0, " + step + ", " + what + ")", x.beside(0, step, what));
            }
        }
        for (int what : new int[] {-1, 3, 4, MOST, LOWEST}) {
            none("beside(0, 1, " + what + ")", x.beside(0, 1, what));
        }
        none("without STEPS", of(ANY).beside(0, 0, 0));
    }

    private static void common() {
        Sentences.promise(22);
        says("of a hole made 200 and its number (as they come first); NONE when there is none such.");
        LongProof x = of("rule o gives ?x;step f(a,b,?x) by o;step f(b,a,?x) by o;");
        given(x, 0, 1, 0, 200, 201, 100);
        for (int k : new int[] {-1, 4, 24, MOST, LOWEST}) {
            none("common(0, 1, " + k + ")", x.common(0, 1, k));
        }
        for (int step : new int[] {-1, 2, 40, MOST, LOWEST}) {
            none("common(" + step + ", 0, 0)", x.common(step, 0, 0));
            none("common(0, " + step + ", 0)", x.common(0, step, 0));
        }
        none("without STEPS", of(ANY).common(0, 0, 0));
    }

    private static void run() {
        Sentences.promise(23);
        says("NONE when there are not so many, or n is not 2 .. 8.");
        LongProof x = of("rule o gives a;" + many(9, "step a by o;"));
        for (int n = 2; n <= 8; n++) {
            due("run(0, " + n + ")", x.run(0, n), 1);
            due("the last " + n, x.run(9 - n, n), 1);
            none("one too few for " + n, x.run(10 - n, n));
            none("run(-1, " + n + ")", x.run(-1, n));
            for (int first : new int[] {9, 10, 40, MOST, MOST - 1, MOST - 7, LOWEST}) {
                none("run(" + first + ", " + n + ")", x.run(first, n));
            }
        }
        for (int n : new int[] {-1, 0, 1, 9, 10, MOST, LOWEST}) {
            none("run(0, " + n + ")", x.run(0, n));
        }
        LongProof two = of("rule o gives a;step a by o;step a by o;");
        due("two of two", two.run(0, 2), 1);
        none("three of two", two.run(0, 3));
        none("two of one", of("rule o gives a;step a by o;").run(0, 2));
        none("two of none", of(ANY).run(0, 2));
        LongProof forty = of("rule o gives a;" + many(40, "step a by o;"));
        due("the last eight of forty", forty.run(32, 8), 1);
        none("behind these", forty.run(33, 8));
    }

    private static void alike() {
        Sentences.promise(24);
        says("NONE when one is none, or they have a STEP in common.");
        LongProof x = of(TREE);
        none("the first is none", x.alike(0, 5, 2));
        none("the second is none", x.alike(5, 0, 2));
        none("a STEP in common", x.alike(4, 5, 2));
        LongProof y = of("rule o gives a;" + many(40, "step a by o;"));
        for (int n = 2; n <= 8; n++) {
            due("the first and the last", y.alike(0, 40 - n, n), 1);
            for (int none : new int[] {-1, 41 - n, 40, MOST, MOST - n, LOWEST}) {
                none("alike(0, " + none + ", " + n + ")", y.alike(0, none, n));
                none("alike(" + none + ", 0, " + n + ")", y.alike(none, 0, n));
            }
            none("alike(0, 0, " + n + ")", y.alike(0, 0, n));
            none("alike(0, " + (n - 1) + ", " + n + ")", y.alike(0, n - 1, n));
        }
        for (int n : new int[] {-1, 0, 1, 9, MOST, LOWEST}) {
            none("alike(0, 20, " + n + ")", y.alike(0, 20, n));
        }
    }

    private static void worth() {
        Sentences.promise(25);
        says("WORTH of a RUN; NONE when it is none, or ALIKE to one ahead of it.");
        LongProof x = of(TREE);
        none("no RUN", x.worth(0, 2));
        due("once: -1 too", x.worth(5, 2), -1);
        due("once: -1 too", x.worth(0, 7), -1);
        LongProof y = of("rule o gives a;" + many(9, "step a by o;"));
        due("four of two", y.worth(0, 2), 2);
        due("four of two", y.worth(1, 2), 2);
        none("ALIKE to one ahead", y.worth(2, 2));
        none("ALIKE to one ahead", y.worth(7, 2));
        due("three of three", y.worth(0, 3), 3);
        for (int first : new int[] {-1, 8, 9, 40, MOST, LOWEST}) {
            none("worth(" + first + ", 2)", y.worth(first, 2));
        }
        for (int n : new int[] {-1, 0, 1, 9, MOST, LOWEST}) {
            none("worth(0, " + n + ")", y.worth(0, n));
        }
        none("without STEPS", of(ANY).worth(0, 2));
    }

    private static void lemma() {
        Sentences.promise(26);
        says("The RUN with the most WORTH above 0, of like ones the first, then the shortest:");
        lemma(of("rule o gives a;" + many(6, "step a by o;")), 0, 2, 1);
        lemma(of("rule o gives a;" + many(8, "step a by o;")), 0, 2, 2);
        lemma(of("rule o gives a;" + many(12, "step a by o;")), 0, 3, 5);
        lemma(of("rule o gives a;" + many(40, "step a by o;")), 0, 5, 27);
        lemma(of("rule o gives a;rule p gives b;step a by p;" + many(6, "step a by o;")), 1, 2, 1);
        lemma(of("rule o gives a;rule p gives b;" + many(6, "step a by p;") + many(6, "step a by o;")), 0, 2, 1);
        lemma(of("rule o gives a;rule p gives b;" + many(6, "step a by p;") + many(8, "step a by o;")), 6, 2, 2);
        lemma(of(ANY + eights(3)), 0, 8, 13);
        lemma(of(ANY + "step a by o;step a by s 0;step a by o;step a by s 2;step a by o;step a by s 4;step a by o;step a by s 6;"
                + "step a by s 0;"), 2, 2, 1);
        says("NONE without, or for others.");
        none("three, but the first of them is no RUN", of(ANY + "step a by o;step a by s 0;step a by o;step a by s 2;step a by o;"
                + "step a by s 4;step a by s 0;").lemma(0));
        none("worth 0 is not above", of("rule o gives a;" + many(4, "step a by o;")).lemma(0));
        none("its worth neither", of("rule o gives a;" + many(4, "step a by o;")).lemma(2));
        none("worth 0 in five", of("rule o gives a;" + many(5, "step a by o;")).lemma(1));
        none("all once", of(TREE).lemma(0));
        none("without STEPS", of(ANY).lemma(0));
        LongProof x = of("rule o gives a;" + many(8, "step a by o;"));
        for (int what : new int[] {-1, 3, 4, MOST, LOWEST}) {
            none("lemma(" + what + ")", x.lemma(what));
        }
        Told.tell(x, TREE);
        none("no lemma of another proof", x.lemma(0));
    }

    /** Eight STEPS of which the last one leans on the second, and so on. */
    private static String eights(int count) {
        StringBuilder text = new StringBuilder();
        for (int first = 0; first < 8 * count; first += 8) {
            text.append("step a by o;");
            for (int k = 1; k < 7; k++) {
                text.append("step a by s ").append(first + k - 1).append(';');
            }
            text.append("step a by s ").append(first).append(';');
        }
        return text.toString();
    }

    private static void lemma(LongProof x, int first, int n, int worth) {
        due("lemma(0)", x.lemma(0), first);
        due("lemma(1)", x.lemma(1), n);
        due("lemma(2)", x.lemma(2), worth);
        due("that is its worth", x.worth(first, n), worth);
    }
}
