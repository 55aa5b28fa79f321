/** Promises 1 to 12: each sentence of the document that names a boundary, with a test of its own. */
public final class EdgesCallsTest {
    private static final int NONE = LongProof.NONE;
    private static final int MOST = Integer.MAX_VALUE;
    private static final int LOWEST = Integer.MIN_VALUE;
    private static final int BLANKS = 0x20202020;

    /** NEEDED are 0 to 3; 2 is 0 told twice; 6 is not RIGHT. */
    private static final String BASE = "rule o gives p(a);rule f p(?x) gives q(?x,?x);rule g q(?x,?y),p(?x) gives r(?y);"
            + "rule any gives p(?z);step p(a) by o;step q(a,a) by f 0;step p(a) by any;step r(a) by g 1 2;"
            + "step p(?z) by any;step p(b) by any;step r(b) by g 1 0;goal 3;reader u odds 50 from 0 to 3;"
            + "reader v odds 20 from 2 to 6;";

    public static void main(String[] args) {
        lastCall();
        constant();
        newObject();
        feed();
        fed();
        feedRefused();
        end();
        endRefused();
        proof();
        proofAnew();
        proofRefused();
        proofTaken();
        fault();
        faultOfTheLatest();
        has();
        hasGoal();
        hasOthers();
        letter();
        letterRefused();
        rule();
        ruleRefused();
        step();
        stepRefused();
        names();
        term();
        wrong();
        Sentences.close(1, 12);
    }

    private static void says(String words) {
        Sentences.says(words);
    }

    private static void due(String call, long got, long want) {
        Sentences.due(call, got, want);
    }

    private static void due(String call, boolean got, boolean want) {
        Sentences.due(call, got, want);
    }

    private static void none(String call, long got) {
        Sentences.none(call, got);
    }

    private static LongProof of(String text) {
        return Sentences.of(text);
    }

    private static String many(int count, String one) {
        return Sentences.many(count, one);
    }

    private static void lastCall() {
        Sentences.terms();
        says("An object is used for at most 512 calls after it has been made;");
        LongProof x = new LongProof();
        for (int call = 1; call <= 80; call++) {
            x.feed(BLANKS, BLANKS, BLANKS, BLANKS, BLANKS);
        }
        x.end(0);
        x.feed(0x72756c65, 0x20722067, 0x69766573, 0x20613b73, 0x74657020);
        x.feed(0x61206279, 0x20723b20, BLANKS, BLANKS, BLANKS);
        due("proof()", x.proof(), 2);
        for (int call = 85; call <= 510; call++) {
            due("call " + call, x.fewest(NONE), 1);
        }
        due("call 511", x.blame(0, true), 1);
        due("call 512", x.fewest(NONE), NONE);
    }

    private static void constant() {
        says("`NONE = -1`: There is none; it is refused.");
        due("NONE", LongProof.NONE, -1);
    }

    private static void newObject() {
        Sentences.promise(1);
        says("No RULES, no STEPS.");
        LongProof x = new LongProof();
        for (int what = 0; what <= 13; what++) {
            due("has(" + what + ")", x.has(what), what == 5 ? NONE : 0);
        }
        none("rule(0, 0)", x.rule(0, 0));
        none("step(0, 0)", x.step(0, 0));
        none("names(0, 0)", x.names(0, 0));
        none("term(0, 0)", x.term(0, 0));
        none("wrong()", x.wrong());
        none("rest(0)", x.rest(0));
        none("leans(0, 0)", x.leans(0, 0));
        none("upon(0, 0)", x.upon(0, 0));
        none("depth(0)", x.depth(0));
        none("load(0)", x.load(0));
        none("covers(0)", x.covers(0));
        none("vital(0)", x.vital(0));
        none("vitals(0)", x.vitals(0));
        none("beside(0, 0, 0)", x.beside(0, 0, 0));
        none("common(0, 0, 0)", x.common(0, 0, 0));
        none("run(0, 2)", x.run(0, 2));
        none("alike(0, 2, 2)", x.alike(0, 2, 2));
        none("worth(0, 2)", x.worth(0, 2));
        none("lemma(0)", x.lemma(0));
        none("order(-1)", x.order(NONE));
        none("order(0)", x.order(0));
        none("held()", x.held());
        none("pages(1, 0)", x.pages(1, 0));
        none("blame(0, true)", x.blame(0, true));
        none("stands()", x.stands());
        none("fewest(-1)", x.fewest(NONE));
        none("ask(0, true)", x.ask(0, true));
        none("least(0)", x.least(0));
        none("whom()", x.whom());
        none("trials(0, 1)", x.trials(0, 1));
        for (int kind = 0; kind < 4; kind++) {
            none("letter(" + kind + ", 0, 0)", x.letter(kind, 0, 0));
        }
        none("octet(0)", x.octet(0));
        due("on() of nothing", x.on(), false);
        due("proof() of nothing", x.proof(), 0);
    }

    private static void feed() {
        Sentences.promise(2);
        says("Twenty bytes come behind those on the tape, of each number the highest first:");
        LongProof x = new LongProof();
        x.feed(0x72756c65, 0x20616220, 0x67697665, 0x73206364, 0x28656629);
        x.feed(0x3b737465, 0x70206768, 0x20627920, 0x61623b20, 0x20202020);
        due("proof()", x.proof(), 2);
        due("the first byte of a", x.letter(0, 0, 0), 1);
        due("its second one", x.letter(0, 0, 1), 2);
        due("the last bytes of d", x.letter(2, 0, 1), 4);
        due("bytes of e", x.letter(2, 1, 0), 5);
        due("bytes of the second twenty", x.letter(2, 2, 0), 7);
        x.feed(0x0000ff00, -1, -1, -1, -1);
        x.end(3);
        due("a byte above 127 is none of a text", x.proof(), NONE);
        due("at its place", x.fault(1), 0);
        x.feed(0x202020ff, 0x3b3b3b3b, -1, -1, -1);
        due("a byte above 127 is none of a text", x.proof(), NONE);
        due("the lowest one last", x.fault(1), 3);
        x.feed(0x000000af, 0, 0, 0, 0);
        x.end(4);
        due("an image whose last byte is 175", x.on(), true);
    }

    private static void fed() {
        says("how many there are;");
        LongProof x = new LongProof();
        for (int k = 1; k <= 80; k++) {
            due("feed", x.feed(k, -k, MOST, LOWEST, 0), 20 * k);
        }
        x.end(0);
        due("feed behind none", x.feed(0, 0, 0, 0, 0), 20);
        x.end(7);
        due("feed behind seven", x.feed(0, 0, 0, 0, 0), 27);
        x.proof();
        due("feed behind a proof", x.feed(0, 0, 0, 0, 0), 20);
        x.on();
        due("feed behind an image", x.feed(0, 0, 0, 0, 0), 20);
    }

    private static void feedRefused() {
        says("NONE, doing nothing, if there would be more than 1600.");
        for (int room = 0; room <= 21; room++) {
            LongProof x = new LongProof();
            x.feed(0x72756c65, 0x20722067, 0x69766573, 0x20613b20, BLANKS);
            for (int k = 1; k < 80; k++) {
                x.feed(BLANKS, BLANKS, BLANKS, BLANKS, BLANKS);
            }
            x.end(1600 - room);
            int want = room < 20 ? NONE : 1620 - room;
            due("feed behind " + (1600 - room), x.feed(-1, -1, -1, -1, -1), want);
            due("there is no more", x.end(Math.max(1600 - room, want) + 1), false);
            due("there is no less", x.end(Math.max(1600 - room, want)), true);
            due("proof()", x.proof(), want == NONE ? 1 : NONE);
            due("the first byte of the twenty", x.fault(1), want == NONE ? NONE : 1600 - room);
        }
        LongProof y = new LongProof();
        for (int k = 0; k < 80; k++) {
            y.feed(BLANKS, BLANKS, BLANKS, BLANKS, BLANKS);
        }
        for (int k = 0; k < 5; k++) {
            none("feed behind 1600", y.feed(-1, -1, -1, -1, -1));
        }
        due("1600 blanks", y.proof(), 0);
        due("there is room again", y.feed(0, 0, 0, 0, 0), 20);
    }

    private static void end() {
        Sentences.promise(3);
        says("The tape has its first n bytes alone: true;");
        LongProof x = new LongProof();
        due("end(0) of nothing", x.end(0), true);
        x.feed(0x72756c65, 0x20722067, 0x69766573, 0x20613b25, -1);
        due("end(20)", x.end(20), true);
        due("end(15)", x.end(15), true);
        due("end(15) again", x.end(15), true);
        due("proof() of 15", x.proof(), 1);
        x.feed(0x72756c65, 0x20722067, 0x69766573, 0x20613b25, -1);
        x.end(14);
        due("proof() of 14", x.proof(), NONE);
        due("it ends too soon", x.fault(1), 14);
        cutInside(x, "rule r gives abc;", 14);
        cutInside(x, "rule r gives abc;", 15);
        cutInside(x, "rule r gives a;step a by r;goal 00;", 33);
        x.feed(-1, -1, -1, -1, -1);
        due("end(0)", x.end(0), true);
        due("proof() of nothing", x.proof(), 0);
        for (int k = 0; k < 80; k++) {
            x.feed(BLANKS, BLANKS, BLANKS, BLANKS, BLANKS);
        }
        due("end(1600)", x.end(1600), true);
        due("end(1599)", x.end(1599), true);
    }

    /** A text that ends inside of a NAME or a number, though there were more bytes of it on the tape. */
    private static void cutInside(LongProof x, String text, int n) {
        Told.feedText(x, text);
        due("end(" + n + ") of " + text, x.end(n), true);
        due("proof() of " + n, x.proof(), NONE);
        due("it ends too soon", x.fault(1), n);
    }

    private static void endRefused() {
        says("false, doing nothing, if it has not so many, or n is below 0.");
        LongProof x = new LongProof();
        due("end(1) of nothing", x.end(1), false);
        due("end(-1) of nothing", x.end(-1), false);
        x.feed(BLANKS, BLANKS, BLANKS, BLANKS, BLANKS);
        for (int n : new int[] {21, 22, 1600, 1601, MOST, -1, -2, -20, LOWEST}) {
            due("end(" + n + ")", x.end(n), false);
        }
        due("it did nothing", x.feed(BLANKS, BLANKS, BLANKS, BLANKS, BLANKS), 40);
        x.end(5);
        due("end(6) of 5", x.end(6), false);
        due("end(20) of 5", x.end(20), false);
        due("it did nothing", x.feed(BLANKS, BLANKS, BLANKS, BLANKS, BLANKS), 25);
        x.proof();
        due("end(1) behind a proof", x.end(1), false);
    }

    private static void proof() {
        Sentences.promise(4);
        says("The tape (it goes) is THE PROOF: how many STATEMENTS;");
        LongProof x = new LongProof();
        due("of no bytes", x.proof(), 0);
        due("of one", Told.tell(x, "rule r gives a;"), 1);
        due("it went", x.end(1), false);
        due("the next one is of no bytes", x.proof(), 0);
        due("and has no RULE", x.has(0), 0);
        due("of eighty", Told.tell(x, "rule r gives a;step a by r;" + many(78, "goal 0;")), 80);
        due("of all kinds", Told.tell(x, BASE), 14);
        due("nothing of another stays", x.has(0), 4);
        due("STEPS", x.has(1), 7);
        due("READERS", x.has(2), 2);
        due("SIGNS", x.has(3), 5);
        due("HOLES", x.has(4), 3);
        due("the GOAL", x.has(5), 3);
    }

    private static void proofAnew() {
        says("The tape (it goes) is THE PROOF:");
        String[] texts = {BASE, "rule o gives ?x;rule s ?x gives ?x;step a by o;step a by s 0;step a by s 1;step a by s 2;",
            "rule z gives q(?x);step q(a) by z;step b by z;step c by z;step b by z;goal 2;reader q odds 9 from 1 to 3;", "",
            "rule k gives a;rule t ?y,?y gives ?z;step f(?w) by k;step f(b) by k;step g by t 0 1;step h by t 2 1;", "%",
            "rule o gives ?x;rule s ?x gives ?y;step a by o;" + many(6, "step s@ by s #;"),
            "rule o gives ?x;rule t ?x,?y gives ?y;" + many(4, "step @ by o;") + "step e by t 0 1;step f by t 2 3;step g by t 4 5;"};
        for (int k = 0; k < texts.length * texts.length * texts.length; k++) {
            String last = texts[k % texts.length];
            if (!last.equals("%")) {
                LongProof x = new LongProof();
                Told.tell(x, texts[k / texts.length / texts.length]);
                x.lemma(0);
                x.order(0);
                x.fewest(0);
                x.pages(1, 1);
                Told.tell(x, texts[k / texts.length % texts.length]);
                Told.tell(x, last);
                LongProof y = new LongProof();
                Told.tell(y, last);
                due("all is as of " + last, all(x).equals(all(y)), true);
            }
        }
        LongProof x = new LongProof();
        for (String lead : new String[] {"m", "n", "p", "q", "r"}) {
            due("as many as there can be each time", Told.tell(x, full(lead, lead)), 58);
            due("SIGNS", x.has(3), 24);
            due("HOLES", x.has(4), 12);
        }
        String terms = "rule r gives a;" + many(21, "step f(f(f(f(f(f(a)))))) by r;") + many(36, "goal 0;");
        for (int k = 0; k < 4; k++) {
            due("147 SIGNS in TERMS each time", Told.tell(x, terms), 58);
        }
    }

    /** What all calls that change nothing answer, as far as a small proof has it. */
    private static String all(LongProof x) {
        StringBuilder out = new StringBuilder();
        for (int what = 0; what <= 13; what++) {
            out.append(x.has(what)).append(' ');
        }
        for (int step = 0; step < 7; step++) {
            for (int what = 0; what <= 10; what++) {
                out.append(x.step(step, what)).append(' ');
            }
            out.append(x.names(step, 0)).append(' ').append(x.names(step, 1)).append(' ').append(x.term(step, 0)).append(' ');
            out.append(x.term(step, 1)).append(' ').append(x.rest(step)).append(' ').append(x.leans(step, 0)).append(' ');
            out.append(x.leans(step, 1)).append(' ').append(x.upon(6 - step, 0)).append(' ').append(x.upon(6 - step, 1)).append(' ');
            out.append(x.depth(step)).append(' ').append(x.load(step)).append(' ').append(x.covers(step)).append(' ');
            out.append(x.vital(step)).append(' ').append(x.vitals(step)).append(' ').append(x.beside(0, step, 0)).append(' ');
            out.append(x.run(step, 2)).append(' ').append(x.worth(step, 2)).append(' ').append(x.alike(0, step, 2)).append(' ');
            out.append(x.order(step - 1)).append(' ').append(x.pages(2, step)).append(' ').append(x.fewest(step - 1)).append(' ');
        }
        for (int rule = 0; rule < 4; rule++) {
            out.append(x.rule(rule, 0)).append(' ').append(x.rule(rule, 1)).append(' ').append(x.rule(rule, 3)).append(' ');
            out.append(x.letter(rule, 0, 0)).append(' ').append(x.letter(rule, 1, 0)).append(' ');
        }
        out.append(x.wrong()).append(' ').append(x.lemma(0)).append(' ').append(x.lemma(2)).append(' ').append(x.held()).append(' ');
        out.append(x.stands()).append(' ').append(x.least(0)).append(' ').append(x.least(1)).append(' ').append(x.whom());
        return out.toString();
    }

    private static void proofRefused() {
        says("NONE with a FAULT (all stays).");
        String[] faults = {"%", "rule q gives zz(yy);step zz(?w) by q;goal 7;", "rule q gives a;rule q gives a;",
            "rule q gives f(f(f(f(f(f(f(a)))))));", many(13, "rule @ gives ?@;"), BASE + "goal 0;reader w odds 1 from 0 to 0"};
        LongProof x = of(BASE);
        x.blame(1, true);
        x.ask(1, true);
        x.seed(5);
        x.image();
        x.blame(3, true);
        for (String text : faults) {
            due("proof() of " + text, Told.tell(x, text), NONE);
            due("the tape goes", x.end(1), false);
            due("STEPS stay", x.has(1), 7);
            due("SIGNS stay", x.has(3), 5);
            due("HOLES stay", x.has(4), 3);
            due("the GOAL stays", x.has(5), 3);
            due("WRONG RULES stay", x.has(11), 2);
            due("FALLEN STEPS stay", x.has(12), 6);
            due("ASKED stay", x.has(13), 1);
            due("a RULE's NAME stays", x.letter(0, 3, 2), 25);
            due("a READER stays", x.letter(1, 1, 0), 22);
            due("a TERM stays", x.term(3, 1), 1);
            due("SEEN stays", x.step(2, 10), 200);
            due("the image stays", x.octet(1), 2);
            due("THE REST stays", x.rest(2), 3);
            due("a page stays", x.pages(1, 0), 3);
            due("an order stays", x.order(2), 2);
            due("THE FEWEST stay", x.fewest(NONE), NONE);
        }
        x.ask(1, false);
        x.ask(0, true);
        due("the seed stays: 57 74 45 54", x.trials(0, 4), 1);
    }

    private static void proofTaken() {
        says("Without one no RULE is WRONG, nobody is ASKED; the seed stays.");
        LongProof x = of(BASE);
        x.seed(5);
        for (int rule = 0; rule < 4; rule++) {
            x.blame(rule, true);
        }
        x.ask(0, true);
        x.ask(1, true);
        due("proof()", Told.tell(x, BASE), 14);
        due("no RULE is WRONG", x.has(11), 0);
        due("no STEP is FALLEN", x.has(12), 0);
        due("nobody is ASKED", x.has(13), 0);
        due("SEEN", x.step(2, 10), 0);
        due("THE FEWEST", x.fewest(NONE), 3);
        x.ask(0, true);
        due("57 74", x.trials(0, 2), 0);
        due("proof()", Told.tell(x, BASE), 14);
        x.ask(0, true);
        due("the seed stays where it came to: 45 54", x.trials(0, 2), 1);
        x.blame(0, true);
        due("proof() of nothing", x.proof(), 0);
        due("no RULE is WRONG", x.has(11), 0);
        due("nobody is ASKED", x.has(13), 0);
    }

    private static void fault() {
        Sentences.promise(5);
        says("its FAULT (what 0; 0 without, and ahead of any), its place (1; NONE without).");
        LongProof x = new LongProof();
        due("ahead of any", x.fault(0), 0);
        none("ahead of any", x.fault(1));
        x.proof();
        due("without", x.fault(0), 0);
        none("without", x.fault(1));
        String[] texts = {"%", "goal 0;", "step a by r;", "step f(f(f(f(f(f(f(", many(13, "rule @ gives a;")};
        int[] places = {0, 5, 10, 18, 180};
        for (int kind = 1; kind <= 5; kind++) {
            Told.tell(x, texts[kind - 1]);
            due("fault(0)", x.fault(0), kind);
            due("fault(1)", x.fault(1), places[kind - 1]);
        }
        says("NONE for another what.");
        for (int what : new int[] {2, 3, -1, -2, MOST, LOWEST}) {
            none("fault(" + what + ")", x.fault(what));
            none("fault(" + what + ") of a new one", new LongProof().fault(what));
        }
    }

    private static void faultOfTheLatest() {
        says("Of the latest proof():");
        LongProof x = of(BASE);
        Told.tell(x, BASE + "goal 9;");
        due("fault(0)", x.fault(0), 2);
        due("fault(1)", x.fault(1), BASE.length() + 5);
        x.feed(0, 0, 0, 0, 0);
        x.end(0);
        x.blame(0, true);
        x.on();
        due("no other call is a proof", x.fault(0), 2);
        Told.tell(x, "rule r gives a");
        due("fault(0) of the next", x.fault(0), 1);
        due("fault(1) of the next", x.fault(1), 14);
        Told.tell(x, BASE);
        due("without", x.fault(0), 0);
        none("without", x.fault(1));
    }

    /** As many RULES, STEPS, READERS, SIGNS and HOLES as there can be. */
    private static String full() {
        return full("s", "");
    }

    private static String full(String sign, String hole) {
        return many(12, "rule @ gives ?" + hole + "@;") + many(24, "step " + sign + "@ by a;") + many(16, "step " + sign + "a by l;")
                + many(6, "reader r@ odds 1 from 0 to 39;");
    }

    private static void has() {
        Sentences.promise(6);
        says("How many there are: 0 RULES, 1 STEPS, 2 READERS, 3 SIGNS, 4 HOLES,");
        LongProof x = of(full());
        int[] most = {12, 40, 6, 24, 12, 39, 40, 1, 16, 16, 1};
        for (int what = 0; what < most.length; what++) {
            due("has(" + what + ") of the most", x.has(what), most[what]);
        }
        says("6 STEPS that are RIGHT, 7 NEEDED, 8 TWICE, 9 COVERED, 10 of THE REST, 11 WRONG RULES, 12 FALLEN STEPS, 13 ASKED.");
        for (int rule = 0; rule < 12; rule++) {
            x.blame(rule, true);
            due("WRONG RULES", x.has(11), rule + 1);
            due("FALLEN STEPS", x.has(12), rule < 11 ? 24 : 40);
        }
        for (int reader = 0; reader < 6; reader++) {
            x.ask(reader, true);
            due("ASKED", x.has(13), reader + 1);
        }
        LongProof y = of("rule o gives a;rule s ?x gives ?y;step a by o;" + many(39, "step a by s #;"));
        due("all RIGHT", y.has(6), 40);
        due("all NEEDED", y.has(7), 40);
        due("all but one TWICE", y.has(8), 39);
        due("all but one COVERED", y.has(9), 39);
        due("one of THE REST", y.has(10), 1);
        LongProof none = of("rule o gives b;step a by o;step f(?x) by o;");
        due("none RIGHT", none.has(6), 0);
        due("none TWICE", none.has(8), 0);
        due("none COVERED", none.has(9), 0);
    }

    private static void hasGoal() {
        says("5 the GOAL (NONE without STEPS),");
        none("without a text", new LongProof().has(5));
        none("without STEPS", of("rule r gives a;").has(5));
        due("one STEP", of("rule r gives a;step a by r;").has(5), 0);
        LongProof x = of(BASE);
        due("the GOAL", x.has(5), 3);
        x.proof();
        none("without STEPS again", x.has(5));
    }

    private static void hasOthers() {
        says("NONE for others.");
        LongProof x = of(BASE);
        for (int what : new int[] {-1, -2, 14, 15, 100, MOST, LOWEST}) {
            none("has(" + what + ")", x.has(what));
            none("has(" + what + ") of a new one", new LongProof().has(what));
        }
    }

    private static void letter() {
        Sentences.promise(7);
        says("Letter k (0 .. 5) of the NAME of a RULE (kind 0), a READER (1), a SIGN (2), a HOLE (3; these as they are told first): "
                + "1 .. 26; 0 behind it;");
        LongProof x = of("rule abcdef ?zyxwvu,?az gives h(g);rule z gives ?za;step f by z;step h(f) by z;"
                + "reader za odds 1 from 0 to 0;reader uvwxyz odds 1 from 0 to 0;");
        letters(x, 0, "abcdef", "z");
        letters(x, 1, "za", "uvwxyz");
        letters(x, 2, "h", "g", "f");
        letters(x, 3, "zyxwvu", "az", "za");
        LongProof most = of(full());
        due("the last RULE", most.letter(0, 11, 0), 12);
        due("the last READER", most.letter(1, 5, 1), 6);
        due("the last SIGN", most.letter(2, 23, 1), 24);
        due("the last HOLE", most.letter(3, 11, 0), 12);
    }

    private static void letters(LongProof x, int kind, String... names) {
        for (int which = 0; which < names.length; which++) {
            for (int k = 0; k < 6; k++) {
                int want = k < names[which].length() ? names[which].charAt(k) - 'a' + 1 : 0;
                due("letter(" + kind + ", " + which + ", " + k + ")", x.letter(kind, which, k), want);
            }
        }
        none("one more of kind " + kind, x.letter(kind, names.length, 0));
    }

    private static void letterRefused() {
        says("NONE when there is none such.");
        LongProof x = of(full());
        int[] most = {12, 6, 24, 12};
        for (int kind = 0; kind < 4; kind++) {
            for (int which : new int[] {-1, most[kind], most[kind] + 1, MOST, LOWEST}) {
                none("letter(" + kind + ", " + which + ", 0)", x.letter(kind, which, 0));
                none("letter(" + kind + ", " + which + ", 5)", x.letter(kind, which, 5));
            }
            for (int k : new int[] {-1, 6, 7, 32, MOST, LOWEST}) {
                none("letter(" + kind + ", 0, " + k + ")", x.letter(kind, 0, k));
            }
        }
        for (int kind : new int[] {-1, 4, 5, MOST, LOWEST}) {
            none("letter(" + kind + ", 0, 0)", x.letter(kind, 0, 0));
        }
        Told.tell(x, "rule r gives a;");
        none("a RULE of another proof", x.letter(0, 1, 0));
        none("a READER of another proof", x.letter(1, 0, 0));
        none("a SIGN of another proof", x.letter(2, 1, 0));
        none("a HOLE of another proof", x.letter(3, 0, 0));
    }

    private static void rule() {
        Sentences.promise(8);
        says("Of a RULE: 0 how many PREMISES, 1 STEPS by it, 2 whether it is WRONG, 3 STEPS that are FALLEN by it alone being WRONG.");
        LongProof x = of("rule n ?x,?y,?z gives ?x;rule o gives ?x;step a by o;step b by n 0 0 0;" + many(38, "step c by o;"));
        int[][] want = {{3, 1, 0, 1}, {0, 39, 0, 40}};
        for (int what = 0; what < 4; what++) {
            due("rule(0, " + what + ")", x.rule(0, what), want[0][what]);
            due("rule(1, " + what + ")", x.rule(1, what), want[1][what]);
        }
        x.blame(1, true);
        due("WRONG", x.rule(1, 2), 1);
        due("not WRONG", x.rule(0, 2), 0);
        due("by it alone", x.rule(0, 3), 1);
        due("by it alone", x.rule(1, 3), 40);
        x.blame(1, false);
        due("WRONG no more", x.rule(1, 2), 0);
        LongProof idle = of("rule o gives a;");
        due("no STEP by it", idle.rule(0, 1), 0);
        due("no STEP FALLEN by it", idle.rule(0, 3), 0);
    }

    private static void ruleRefused() {
        says("NONE when there is none such, or for others.");
        LongProof x = of(full());
        for (int what = 0; what < 4; what++) {
            for (int rule : new int[] {-1, 12, 13, 32, MOST, LOWEST}) {
                none("rule(" + rule + ", " + what + ")", x.rule(rule, what));
            }
        }
        for (int what : new int[] {-1, 4, 5, MOST, LOWEST}) {
            none("rule(0, " + what + ")", x.rule(0, what));
            none("rule(11, " + what + ")", x.rule(11, what));
        }
        Told.tell(x, "rule r gives a;");
        none("a RULE of another proof", x.rule(1, 0));
    }

    private static void step() {
        Sentences.promise(9);
        says("5 the first STEP by which it is COVERED (NONE without), 6 its number in THE REST (NONE when it is not in it),");
        LongProof x = of(BASE);
        int[] covered = {NONE, NONE, 0, NONE, NONE, 4, NONE};
        int[] numbers = {0, 1, NONE, 2, NONE, NONE, NONE};
        for (int step = 0; step < 7; step++) {
            due("step(" + step + ", 5)", x.step(step, 5), covered[step]);
            due("step(" + step + ", 6)", x.step(step, 6), numbers[step]);
        }
        says("0 its RULE, 1 how many it names, 2 whether it is RIGHT, 3 NEEDED, 4 the first STEP with its TERM,");
        int[] two = {3, 0, 1, 1, 0};
        int[] six = {2, 2, 0, 0, 6};
        for (int what = 0; what < 5; what++) {
            due("step(2, " + what + ")", x.step(2, what), two[what]);
            due("step(6, " + what + ")", x.step(6, what), six[what]);
        }
        says("7 whether it is FALLEN, 8 how many STEPS name it, 9 SIGNS and HOLES of its TERM, 10 SEEN.");
        x.blame(1, true);
        x.ask(0, true);
        x.ask(1, true);
        int[] one = {1, 2, 3, 500};
        int[] last = {1, 0, 2, 200};
        int[] fifth = {0, 0, 2, 200};
        for (int what = 7; what <= 10; what++) {
            due("step(1, " + what + ")", x.step(1, what), one[what - 7]);
            due("step(6, " + what + ")", x.step(6, what), last[what - 7]);
            due("step(5, " + what + ")", x.step(5, what), fifth[what - 7]);
        }
        LongProof y = of("rule o gives a;rule t ?x,?y,?z gives ?x;step a by o;" + many(39, "step a by t 0 0 0;"));
        due("each STEP that names it counts once", y.step(0, 8), 39);
        due("names three", y.step(39, 1), 3);
    }

    private static void stepRefused() {
        says("NONE when there is none such, or for others.");
        LongProof x = of(full());
        for (int what = 0; what <= 10; what++) {
            for (int step : new int[] {-1, 40, 41, 64, MOST, LOWEST}) {
                none("step(" + step + ", " + what + ")", x.step(step, what));
            }
        }
        for (int what : new int[] {-1, 11, 12, MOST, LOWEST}) {
            none("step(0, " + what + ")", x.step(0, what));
            none("step(39, " + what + ")", x.step(39, what));
        }
        Told.tell(x, "rule r gives a;step a by r;");
        none("a STEP of another proof", x.step(1, 0));
    }

    private static void names() {
        Sentences.promise(10);
        says("The k-th STEP that a STEP names; NONE when there is none such.");
        LongProof x = of("rule o gives a;rule s ?x gives ?x;rule u ?x,?y,?z gives ?x;step a by o;step a by s 0;"
                + "step a by u 1 0 1;");
        int[][] want = {{}, {0}, {1, 0, 1}};
        for (int step = 0; step < 3; step++) {
            for (int k = 0; k < want[step].length; k++) {
                due("names(" + step + ", " + k + ")", x.names(step, k), want[step][k]);
            }
            for (int k : new int[] {-1, want[step].length, 3, 4, MOST, LOWEST}) {
                none("names(" + step + ", " + k + ")", x.names(step, k));
            }
        }
        for (int step : new int[] {-1, 3, 40, MOST, LOWEST}) {
            none("names(" + step + ", 0)", x.names(step, 0));
        }
        LongProof y = of("rule o gives a;rule s ?x gives ?x;step a by o;" + many(39, "step a by s #;"));
        due("names(39, 0)", y.names(39, 0), 38);
        none("names(40, 0)", y.names(40, 0));
    }

    private static void term() {
        Sentences.promise(11);
        says("its number, of a HOLE 100 and its number; NONE when there is none such.");
        LongProof x = of("rule o gives a;step ?x by o;step f(?y,g(a,?x),b) by o;");
        int[][] want = {{100}, {1, 101, 2, 0, 100, 3}};
        for (int step = 0; step < 2; step++) {
            for (int k = 0; k < want[step].length; k++) {
                due("term(" + step + ", " + k + ")", x.term(step, k), want[step][k]);
            }
            for (int k : new int[] {-1, want[step].length, 24, 400, MOST, LOWEST}) {
                none("term(" + step + ", " + k + ")", x.term(step, k));
            }
        }
        for (int step : new int[] {-1, 2, 40, MOST, LOWEST}) {
            none("term(" + step + ", 0)", x.term(step, 0));
        }
        LongProof most = of(full());
        due("the last SIGN", most.term(23, 0), 23);
        LongProof holes = of(many(12, "rule @ gives ?@;") + "step ?l by a;");
        due("the last HOLE", holes.term(0, 0), 111);
    }

    private static void wrong() {
        Sentences.promise(12);
        says("The first STEP that is not RIGHT; NONE without.");
        none("without STEPS", of("rule o gives a;").wrong());
        none("all RIGHT", of("rule o gives a;step a by o;").wrong());
        due("the only one", of("rule o gives a;step b by o;").wrong(), 0);
        due("the first of two", of("rule o gives a;step a by o;step b by o;step a by o;step b by o;").wrong(), 1);
        due("the last of forty", of("rule o gives a;" + many(39, "step a by o;") + "step b by o;").wrong(), 39);
        none("forty RIGHT ones", of("rule o gives a;" + many(40, "step a by o;")).wrong());
    }
}
