/** Terms I: each sentence of the document that names a boundary of a text, with a test of its own. */
public final class EdgesTermsTest {
    private static final int NONE = LongProof.NONE;
    private static final String[] OWN = {"rule", "gives", "step", "by", "goal", "reader", "odds", "from", "to"};

    /** A RULE of each number of PREMISES, and three STEPS. */
    private static final String FOUR = "rule r gives ?a;rule s ?a gives ?b;rule t ?a,?b gives ?c;"
            + "rule u ?a,?b,?c gives ?d;step a by r;step b by r;step c by r;";

    public static void main(String[] args) {
        Sentences.terms();
        statements();
        premises();
        rules();
        namedSteps();
        toldAhead();
        steps();
        goal();
        odds();
        readerSteps();
        readers();
        parts();
        signs();
        firstThatEnded();
        holes();
        oneAndTheSameHole();
        inOneTerm();
        inAllTerms();
        letters();
        ownWords();
        unlikeNames();
        namesOfTheirOwn();
        blanks();
        sideBySide();
        firstAlongTheText();
        firstByte();
        wholeWords();
        whereANameIsAsked();
        fifthDigit();
        endsTooSoon();
        cannotBe();
        alreadyThere();
        noRule();
        otherParts();
        seventhBracket();
        oneTooMany();
        tooManyNames();
        tooManyInTerms();
        statementTooMany();
        Sentences.close(1, 0);
    }

    private static void says(String words) {
        Sentences.says(words);
    }

    private static void due(String call, long got, long want) {
        Sentences.due(call, got, want);
    }

    private static void fault(int kind, String marked) {
        Sentences.fault(kind, marked);
    }

    private static LongProof right(String text, int statements) {
        return Sentences.right(text, statements);
    }

    private static String many(int count, String one) {
        return Sentences.many(count, one);
    }

    private static void statements() {
        says("{ STATEMENT ; } (80 at most)");
        right("", 0);
        right("rule r gives a;", 1);
        fault(1, "^;");
        fault(1, "rule r gives a^");
        fault(1, "rule r gives a;^;");
        fault(1, "rule r gives a ^rule s gives a;");
        String most = many(12, "rule @ gives a;") + many(40, "step a by a;")
                + many(6, "reader u@ odds 1 from 0 to 0;");
        right(most + many(21, "goal 0;"), 79);
        right(most + many(22, "goal 0;"), 80);
        fault(5, most + many(22, "goal 0;") + "^goal 0;");
        right("rule r gives a;step a by r;" + many(78, "goal 0;"), 80);
    }

    private static void premises() {
        says("rule NAME TERM { , TERM } gives TERM (1 to 3 PREMISES;");
        due("none", right("rule r gives a;", 1).rule(0, 0), 0);
        due("one", right("rule r a gives a;", 1).rule(0, 0), 1);
        due("two", right("rule r a,a gives a;", 1).rule(0, 0), 2);
        due("three", right("rule r a,a,a gives a;", 1).rule(0, 0), 3);
        fault(1, "rule r a,a,a^,a gives a;");
        fault(1, "rule r a,a,a^,gives a;");
        fault(1, "rule r a,a,^gives a;");
        fault(1, "rule r a,^gives a;");
        fault(1, "rule r^,a gives a;");
        fault(1, "rule r a^;");
        fault(1, "rule r gives ^gives a;");
        fault(1, "rule r gives a^,a;");
    }

    private static void rules() {
        says("(1 to 3 PREMISES; 12 RULES)");
        due("eleven", right(many(11, "rule @ gives a;"), 11).has(0), 11);
        due("twelve", right(many(12, "rule @ gives a;"), 12).has(0), 12);
        fault(5, many(12, "rule @ gives a;") + "^rule m gives a;");
        fault(5, many(12, "rule @ gives a;") + "step a by a;goal 0;^rule m gives a;");
    }

    private static void namedSteps() {
        says("(a RULE, as many N as it has PREMISES,");
        right(FOUR + "step d by r;", 8);
        right(FOUR + "step d by s 0;", 8);
        right(FOUR + "step d by t 0 0;", 8);
        right(FOUR + "step d by u 0 0 0;", 8);
        fault(1, FOUR + "step d by r ^0;");
        fault(1, FOUR + "step d by s^;");
        fault(1, FOUR + "step d by s 0 ^0;");
        fault(1, FOUR + "step d by t 0^;");
        fault(1, FOUR + "step d by t 0 0 ^0;");
        fault(1, FOUR + "step d by u 0 0^;");
        fault(1, FOUR + "step d by u 0 0 0 ^0;");
        fault(1, FOUR + "step d by u 0 0^,0;");
    }

    private static void toldAhead() {
        says("each a step told ahead; 40 STEPS)");
        right(FOUR + "step d by u 0 1 2;", 8);
        right(FOUR + "step d by u 2 2 2;", 8);
        fault(2, FOUR + "step d by u ^3 0 0;");
        fault(2, FOUR + "step d by u 2 ^3 0;");
        fault(2, FOUR + "step d by u 2 2 ^3;");
        fault(2, FOUR + "step d by s ^4;step e by r;");
        fault(2, "rule s ?a gives ?b;step a by s ^0;");
        String forty = "rule o gives ?a;rule s ?a gives ?b;step a by o;" + many(38, "step a by s #;");
        right(forty + "step a by s 38;", 42);
        fault(2, forty + "step a by s ^39;");
        fault(2, forty + "step a by s ^40;");
    }

    private static void steps() {
        says("40 STEPS)");
        due("39", right("rule r gives a;" + many(39, "step a by r;"), 40).has(1), 39);
        due("40", right("rule r gives a;" + many(40, "step a by r;"), 41).has(1), 40);
        fault(5, "rule r gives a;" + many(40, "step a by r;") + "^step a by r;");
        fault(5, "rule r gives a;" + many(40, "step a by r;") + "goal 3; ^step");
    }

    private static void goal() {
        says("goal N (a STEP told ahead; the last one counts; the last STEP without)");
        fault(2, "goal ^0;");
        fault(2, "rule r gives a;goal ^0;step a by r;");
        fault(2, FOUR + "goal ^3;");
        fault(2, FOUR + "goal ^3;step d by r;");
        due("the first", right(FOUR + "goal 0;", 8).has(5), 0);
        due("the last", right(FOUR + "goal 2;", 8).has(5), 2);
        due("of two the last", right(FOUR + "goal 2;goal 1;", 9).has(5), 1);
        due("of three the last", right(FOUR + "goal 0;step a by r;goal 3;goal 0;", 11).has(5), 0);
        due("with STEPS behind it", right(FOUR + "goal 1;step a by r;step a by r;", 10).has(5), 1);
        due("without", right(FOUR, 7).has(5), 2);
        due("without, of one", right("rule r gives a;step a by r;", 2).has(5), 0);
        due("without STEPS", right("rule r gives a;", 1).has(5), NONE);
        due("39 of 40", right("rule r gives a;" + many(40, "step a by r;") + "goal 39;", 42).has(5), 39);
        fault(2, "rule r gives a;" + many(40, "step a by r;") + "goal ^40;");
    }

    private static void odds() {
        says("reader NAME odds N from N to N (0 .. 100,");
        LongProof x = right(FOUR + "reader x odds 0 from 0 to 0;reader y odds 100 from 1 to 1;", 9);
        x.ask(0, true);
        x.ask(1, true);
        due("odds 0", x.step(0, 10), 0);
        due("odds 100", x.step(1, 10), 1000);
        fault(2, FOUR + "reader x odds ^101 from 0 to 0;");
        fault(2, FOUR + "reader x odds ^9999 from 0 to 0;");
        fault(1, FOUR + "reader x odds ^-1 from 0 to 0;");
        right(FOUR + "reader x odds 0100 from 0 to 0;", 8);
    }

    private static void readerSteps() {
        says("STEPS told ahead, the second not below the first;");
        right(FOUR + "reader x odds 1 from 2 to 2;", 8);
        right(FOUR + "reader x odds 1 from 0 to 2;", 8);
        fault(2, FOUR + "reader x odds 1 from ^3 to 3;");
        fault(2, FOUR + "reader x odds 1 from 0 to ^3;");
        fault(2, FOUR + "reader x odds 1 from 2 to ^3;step d by r;");
        fault(2, FOUR + "reader x odds 1 from 2 to ^1;");
        fault(2, FOUR + "reader x odds 1 from 1 to ^0;");
        fault(2, "reader x odds 1 from ^0 to 0;");
        LongProof x = right(FOUR + "reader x odds 50 from 1 to 1;", 8);
        x.ask(0, true);
        due("ahead of the first", x.step(0, 10), 0);
        due("from one to the same", x.step(1, 10), 500);
        due("behind the second", x.step(2, 10), 0);
    }

    private static void readers() {
        says("the second not below the first; 6 READERS)");
        due("five", right(FOUR + many(5, "reader x@ odds 1 from 0 to 0;"), 12).has(2), 5);
        due("six", right(FOUR + many(6, "reader x@ odds 1 from 0 to 0;"), 13).has(2), 6);
        fault(5, FOUR + many(6, "reader x@ odds 1 from 0 to 0;") + "^reader y odds 1 from 0 to 0;");
        fault(5, FOUR + many(6, "reader x@ odds 1 from 0 to 0;") + "step d by r; ^reader");
    }

    private static void parts() {
        says("NAME ( TERM { , TERM } ) (a SIGN and its 1 to 3 parts;");
        right("rule r gives f;", 1);
        right("rule r gives f(a);", 1);
        right("rule r gives f(a,a);", 1);
        right("rule r gives f(a,a,a);", 1);
        fault(1, "rule r gives f(^);");
        fault(1, "rule r gives f(^,a);");
        fault(1, "rule r gives f(a,^);");
        fault(1, "rule r gives f(a,a,a^,a);");
        fault(1, "rule r gives f(a,a,a^,);");
        fault(1, "rule r gives f(a)^(a);");
        fault(1, "rule r gives ?f^(a);");
        fault(1, "rule r gives f(a ^a);");
    }

    private static String signs(int count) {
        StringBuilder out = new StringBuilder();
        for (int k = 0; k < count; k++) {
            out.append(k % 3 == 0 ? "rule r" + (char) ('a' + k / 3) + " s" : k % 3 == 1 ? ",s" : " gives s");
            out.append((char) ('a' + k)).append(k % 3 == 2 ? ";" : "");
        }
        return out.toString();
    }

    private static void signs() {
        says("24 SIGNS of all,");
        due("24", right(signs(24), 8).has(3), 24);
        due("the last one", right(signs(24), 8).letter(2, 23, 1), 24);
        right(signs(24) + "rule x gives sx;rule y gives sa;", 10);
        fault(5, signs(24) + "rule x gives ^sy;");
        fault(5, signs(24) + "step ^sy by ra;");
        fault(5, signs(21) + "rule x gives sv(sw,sx,^sy);");
        right(signs(21) + "rule x gives sv(sw,sx);", 8);
    }

    private static void firstThatEnded() {
        says("each with as many parts as the first one of it that has ended)");
        fault(3, "rule r gives ^f(f);");
        fault(3, "rule r gives ^f(f(a),a);");
        fault(3, "rule r gives ^f(a,f(a));");
        fault(3, "rule r gives f(a,^f(a,f(a)));");
        fault(3, "rule r gives f(f(a),^f);");
        right("rule r gives f(f(f(a)));", 1);
        right("rule r gives f(f(a,a,a),f(a,a,a),a);rule s f(a,a,a) gives a;", 2);
        fault(3, "rule r gives g(f(a,a),^f(a));");
        fault(3, "rule r f(a),^f gives f;");
        fault(3, "rule r gives f(a);step ^f by r;");
        fault(3, "rule r gives f;step ^f(f) by r;");
        fault(3, "rule r gives f(a);step ^a(f(a)) by r;");
    }

    private static String holes(int count) {
        return signs(count).replaceAll("\\bs([a-z])", "?h$1");
    }

    private static void holes() {
        says("or ? NAME (a HOLE; 12 HOLES of all;");
        due("12", right(holes(12), 4).has(4), 12);
        due("the last one", right(holes(12), 4).letter(3, 11, 1), 12);
        right(holes(12) + "rule x gives ?hl;rule y gives ?ha;", 6);
        fault(5, holes(12) + "rule x gives ?^hm;");
        fault(5, holes(12) + "rule x gives f(?ha,? \n^hm);");
        fault(5, holes(12) + "step ?^hm by ra;");
    }

    private static void oneAndTheSameHole() {
        says("12 HOLES of all; one and the same in all that is told)");
        LongProof x = right("rule r ?x gives ?y;rule s gives f(?y,?x);step f(?x,?y) by s;step ?y by r 0;", 4);
        due("two in all", x.has(4), 2);
        due("the first one in a STEP", x.term(0, 1), 100);
        due("the second one in a STEP", x.term(0, 2), 101);
        due("in another STEP", x.term(1, 0), 101);
    }

    private static void inOneTerm() {
        says("24 SIGNS and HOLES in a TERM at most;");
        String ten = "h(q(a,a,a),q(a,?x,a),?x)";
        String most = "k(" + ten + "," + ten + ",i(a,?x))";
        LongProof x = right("rule o gives " + most + ";rule r " + most + "," + most + "," + most + " gives " + most + ";step "
                + most + " by o;step " + most + " by r 0 0 0;", 4);
        due("24 in it", x.step(1, 9), 24);
        due("the last one", x.term(1, 23), 100);
        due("behind it", x.term(1, 24), NONE);
        String more = "k(" + ten + "," + ten + ",q(a,a,^a))";
        fault(5, "rule r gives " + more + ";");
        fault(5, "rule r " + more + " gives a;");
        fault(5, "rule r a,a," + more + " gives a;");
        fault(5, "rule r gives a;step " + more + " by r;");
        fault(5, "rule r gives " + more.replace("^a", "? ^x") + ";");
        fault(5, "rule r gives " + more.replace("^a", "^f(a)") + ";");
    }

    /** Twenty SIGNS and HOLES. */
    private static String twenty() {
        String five = "q(a,a,f(?x))";
        return "k(" + five + "," + five + ",i(" + five + ",f(f(a))))";
    }

    /** Twenty TERMS of twenty: 400 in RULES and STEPS. */
    private static String fourHundred() {
        return "rule o " + twenty() + "," + twenty() + " gives " + twenty() + ";rule r gives " + twenty() + ";"
                + many(16, "step " + twenty() + "by r;");
    }

    private static void inAllTerms() {
        says("400 in all TERMS together.");
        LongProof x = right(fourHundred(), 18);
        due("the last STEP has twenty", x.step(15, 9), 20);
        due("its last one", x.term(15, 19), 2);
        right(fourHundred() + "goal 0;", 19);
        fault(5, fourHundred() + "step ^a by r;");
        fault(5, fourHundred() + "step ?^x by r;");
        fault(5, fourHundred() + "rule s ^a gives a;");
        fault(5, fourHundred() + "rule s gives ^f(a);");
        String almost = fourHundred().replaceAll("step [^;]*;$", "");
        right(almost + "step k(q(a,a,a),q(a,a,a),q(a,a,a)) by r;step i(a,a) by r;step f(f(f(a))) by r;", 20);
        fault(5, almost + "step k(q(a,a,a),q(a,a,a),q(a,a,a)) by r;step i(a,a) by r;step f(f(f(f(^a)))) by r;");
    }

    private static void letters() {
        says("NAMES: 1 to 6 letters, no OWN WORD;");
        right("rule a gives b;", 1);
        right("rule abcdef gives uvwxyz(?zyxwvu);step uvwxyz(a) by abcdef;reader fedcba odds 1 from 0 to 0;", 3);
        fault(1, "rule ^0 gives b;");
        fault(1, "rule ^; gives b;");
        fault(1, "rule r gives ?^;");
        fault(1, "rule ^A gives b;");
        fault(1, "rule ^` gives b;");
        fault(1, "rule ^{ gives b;");
        fault(1, "rule ^_ gives b;");
        fault(1, "rule ^\u00e4 gives b;");
        right("rule az gives za;", 1);
    }

    private static void ownWords() {
        says("OWN WORDS: rule, gives, step, by, goal, reader, odds, from, to.");
        for (String own : OWN) {
            fault(1, "rule ^" + own + " gives a;");
            fault(1, "rule r gives ^" + own + ";");
            fault(1, "rule r gives ^" + own + "(a);");
            fault(1, "rule r gives f(^" + own + ");");
            fault(1, "rule r gives ?^" + own + ";");
            fault(1, "rule r gives a;step ^" + own + " by r;");
            fault(1, "rule r gives a;step a by ^" + own + ";");
            fault(1, "rule r gives a;step a by r;reader ^" + own + " odds 1 from 0 to 0;");
            if (own.length() < 6) {
                right("rule " + own + "x gives " + own + "y(?" + own + "z);", 1);
                right("rule x" + own + " gives " + own.substring(1) + ";", 1);
            }
        }
    }

    private static void unlikeNames() {
        says("those of RULES and READERS are unlike ones;");
        String told = "rule r gives a;step a by r;reader x odds 1 from 0 to 0;";
        fault(3, told + "rule ^r gives a;");
        fault(3, told + "rule ^x gives a;");
        fault(3, told + "reader ^x odds 1 from 0 to 0;");
        fault(3, told + "reader ^r odds 1 from 0 to 0;");
        right(told + "rule rr gives a;reader xx odds 1 from 0 to 0;", 5);
        right("rule abcdef gives a;rule abcdeg gives a;rule abcde gives a;", 3);
    }

    private static void namesOfTheirOwn() {
        says("SIGNS and HOLES are names of their own.");
        LongProof x = right("rule r gives r(?r,?x);step x by r;reader x odds 1 from 0 to 0;rule a gives x;", 4);
        due("SIGNS r and x", x.has(3), 2);
        due("HOLES r and x", x.has(4), 2);
        right("rule a gives f(?f);rule f gives f(a);", 2);
        right("rule r gives f(a);step ?f by r;step f(f(?a)) by r;", 3);
    }

    private static void blanks() {
        says("Blanks (10, 32) are where one likes");
        right("\n rule\n r\n f\n(\n ?\n x\n,\n a\n )\n ,\n b\n gives\n c\n ;\n", 1);
        right(" \n\n rule  o\ngives ? \n x ; step f ( a , b ) by \n o ; goal\n0 ; reader\nu odds\n1 from\n0 to\n0\n;\n ", 4);
        right("rule o gives?x;step f(a,b)by o;", 2);
        right(" \n \n", 0);
        for (char other : new char[] {0, 9, 11, 12, 13, 31, 33, 127, 160, 255}) {
            fault(1, "rule^" + other + "r gives a;");
            fault(1, "^" + other);
            fault(1, "rule r gives a^" + other + ";");
            fault(1, "rule r gives a;^" + other);
        }
        fault(1, "^ru le r gives a;");
        fault(1, "rule r gi ^ves a;");
    }

    private static void sideBySide() {
        says("(words and numbers side by side need one)");
        right(FOUR + "step d by t 0 0;", 8);
        right(FOUR + "step d by t\n0\n0;", 8);
        fault(1, FOUR + "step d by t^0 0;");
        fault(1, FOUR + "step d by t 00^;");
        fault(1, "^ruler gives a;");
        fault(1, "rule rgives a^;");
        fault(1, FOUR + "goal^0;");
        fault(1, FOUR + "reader x odds^1 from 0 to 0;");
        fault(1, FOUR + "reader x odds 1^from 0 to 0;");
        fault(1, FOUR + "reader x odds 1 from^0 to 0;");
        fault(1, FOUR + "reader x odds 1 from 0^to 0;");
        fault(1, FOUR + "reader x odds 1 from 0 to^0;");
        right(FOUR + "step f(d)by r;", 8);
    }

    private static void firstAlongTheText() {
        says("FAULTS, the first along the text:");
        fault(1, "rule ^1 gives a;rule q gives a;rule q gives a;");
        fault(2, FOUR + "goal ^9;goal x;");
        fault(2, FOUR + "reader x odds ^999 from 9 to 9;");
        fault(2, FOUR + "reader x odds 9 from ^9 to 8;");
        fault(2, FOUR + "step d by t ^9 x;");
        fault(3, FOUR + "step d by ^q 9;");
        fault(3, FOUR + "rule ^r f(f) gives to;");
        fault(3, FOUR + "rule x ^f(f) gives to;");
        fault(4, FOUR + "rule x f(f(f(f(f(f(f^(%");
        fault(5, holes(12) + "rule x gives ?^y(;");
        fault(1, FOUR + "step d ^to q 9;");
    }

    private static void firstByte() {
        says("1 the first byte with which no such text goes on");
        fault(1, "^%");
        fault(1, "^(");
        fault(1, "^0");
        fault(1, "rule ^(");
        fault(1, "rule ^?");
        fault(1, "rule r^;");
        fault(1, "rule r^(");
        fault(1, "rule r^)");
        fault(1, "rule r a^?");
        fault(1, "rule r a ^1");
        fault(1, "rule r gives^;");
        fault(1, "rule r gives^,");
        fault(1, "rule r gives a^)");
        fault(1, "rule r gives a ^1");
        fault(1, "rule r gives f(a^;");
        fault(1, "rule r gives f(a^?");
        fault(1, "rule r gives f(^(");
        fault(1, "rule r gives ?^(");
        fault(1, "step^;");
        fault(1, "step a^;");
        fault(1, "step a^,");
        fault(1, FOUR + "step a by^;");
        fault(1, FOUR + "step a by ^0;");
        fault(1, FOUR + "step a by r^(");
        fault(1, FOUR + "goal^;");
        fault(1, FOUR + "goal 0^,");
        fault(1, FOUR + "reader x^;");
        fault(1, FOUR + "reader x ^5;");
        fault(1, FOUR + "reader x odds 5^;");
        fault(1, FOUR + "reader x odds 5 from 0^;");
        fault(1, FOUR + "reader x odds 5 from 0 to 0^,");
    }

    private static void wholeWords() {
        says("(words and numbers whole, at their first byte;");
        fault(1, "^r");
        fault(1, "^rul");
        fault(1, "^rulx");
        fault(1, "^rules");
        fault(1, "^stepp a by r;");
        fault(1, "^goals 0;");
        fault(1, "^readerx odds 1 from 0 to 0;");
        fault(1, "^abcdefghi");
        fault(1, "^123456");
        fault(1, "rule r a ^give a;");
        fault(1, "rule r a ^givess a;");
        fault(1, FOUR + "step a ^b r;");
        fault(1, FOUR + "step a ^byy r;");
        fault(1, FOUR + "step a by r ^abcdefgh;");
        fault(1, FOUR + "step a by r ^123456;");
        fault(1, FOUR + "goal ^abcdefgh;");
        fault(1, FOUR + "reader x ^oddss 1 from 0 to 0;");
        fault(1, FOUR + "reader x ^odd 1 from 0 to 0;");
        fault(1, FOUR + "reader x odds 1 ^fromm 0 to 0;");
        fault(1, FOUR + "reader x odds 1 ^fro 0 to 0;");
        fault(1, FOUR + "reader x odds 1 from 0 ^too 0;");
        fault(1, FOUR + "reader x odds 1 from 0 ^t 0;");
        fault(1, "rule ^123456 gives a;");
    }

    private static void whereANameIsAsked() {
        says("where a NAME is asked, an OWN WORD so, a 7th letter at itself;");
        fault(1, "rule abcdef^g gives a;");
        fault(1, "rule abcdef^ghijkl gives a;");
        fault(1, "rule r abcdef^g gives a;");
        fault(1, "rule r a,abcdef^g gives a;");
        fault(1, "rule r gives abcdef^g;");
        fault(1, "rule r gives ?abcdef^g;");
        fault(1, "rule r gives f(a,abcdef^g);");
        fault(1, FOUR + "step abcdef^g by r;");
        fault(1, FOUR + "step a by abcdef^g;");
        fault(1, FOUR + "reader abcdef^g odds 1 from 0 to 0;");
        fault(1, "rule reader^s gives a;");
        fault(1, "rule r givesg^;");
        fault(1, "rule ^reader gives a;");
        fault(1, "rule r gives ^from;");
    }

    private static void fifthDigit() {
        says("a 5th digit at itself;");
        right(FOUR + "goal 0000;", 8);
        fault(1, FOUR + "goal 0000^0;");
        fault(1, FOUR + "goal 9999^9;");
        fault(1, FOUR + "goal 0000^00000;");
        fault(1, FOUR + "step d by s 0000^1;");
        fault(1, FOUR + "step d by u 0 0 0000^1;");
        fault(1, FOUR + "reader x odds 0000^1 from 0 to 0;");
        fault(1, FOUR + "reader x odds 1 from 0000^1 to 0;");
        fault(1, FOUR + "reader x odds 1 from 0 to 0000^1;");
        fault(1, FOUR + "goal 4294^967296;");
    }

    private static void endsTooSoon() {
        says("at the text's length, if it ends too soon)");
        String[] wholes = {"rule x gives d;", "rule x f(?a,b),?c,d gives e;", "step f(a,b,c) by u 0 1 2;", "goal 0;",
            "reader x odds 1 from 0 to 0;"};
        for (String whole : wholes) {
            for (int cut = 1; cut < whole.length(); cut++) {
                boolean inWord = isOfWord(whole.charAt(cut)) && isOfWord(whole.charAt(cut - 1));
                if (!inWord) {
                    fault(1, FOUR + whole.substring(0, cut) + "^");
                    fault(1, FOUR + whole.substring(0, cut) + " \n^");
                }
            }
            right(FOUR + whole, 8);
        }
        for (String last : new String[] {"rule", "rule r", "rule r gives abcdef", "rule r gives f(", "step a by r;goal 0", "step a "}) {
            String told = "rule o gives a;rule q gives a;".replace("q", last.startsWith("step") ? "r" : "q");
            String blanks = " ".repeat(1600 - told.length() - last.length());
            fault(1, told + blanks + last + "^");
            fault(1, told + last + blanks + "^");
        }
    }

    private static boolean isOfWord(char sign) {
        return Character.isLetterOrDigit(sign);
    }

    private static void cannotBe() {
        says("2 a number (of 1 to 4 digits) that can't be, at it;");
        fault(2, FOUR + "goal ^3;");
        fault(2, FOUR + "goal ^03;");
        fault(2, FOUR + "goal ^003;");
        fault(2, FOUR + "goal ^0003;");
        fault(2, FOUR + "goal ^9999;");
        fault(1, FOUR + "goal 9999^9;");
        fault(2, FOUR + "goal \n ^3x;");
        fault(2, FOUR + "goal ^3");
        fault(2, FOUR + "reader x odds ^101");
        fault(2, FOUR + "reader x odds 1 from 2 to ^1");
    }

    private static void alreadyThere() {
        says("3 a NAME to be given that is there already,");
        fault(3, FOUR + "rule ^r");
        fault(3, FOUR + "rule ^u gives a;");
        fault(3, FOUR + "reader ^r");
        fault(3, FOUR + "reader x odds 1 from 0 to 0;rule ^x");
        fault(3, FOUR + "reader x odds 1 from 0 to 0;reader ^x");
        fault(3, FOUR + "reader x odds 1 from 0 to 0;reader y odds 1 from 0 to 0;reader ^x0");
        fault(3, "rule abcdef gives a;rule \n ^abcdef gives a;");
        fault(3, many(12, "rule @ gives a;") + "step a by a;reader ^l odds 1 from 0 to 0;");
    }

    private static void noRule() {
        says("one that is no RULE,");
        fault(3, "step a by ^r;");
        fault(3, FOUR + "step a by ^x;");
        fault(3, FOUR + "step a by ^x");
        fault(3, FOUR + "step a by ^a;");
        fault(3, FOUR + "step a by ^rr 0;");
        fault(3, FOUR + "reader x odds 1 from 0 to 0;step a by ^x;");
        fault(3, "step a by ^r;rule r gives a;");
        right(FOUR + "step a by u 0 0 0;", 8);
    }

    private static void otherParts() {
        says("a SIGN with another number of parts than before (at the SIGN, once its parts have ended), at it;");
        String told = "rule r gives f(a);rule s gives g(a,a);";
        fault(3, told + "step ^f by r;");
        fault(3, told + "step ^f");
        fault(3, told + "step ^f ");
        fault(3, told + "step ^f,");
        fault(3, told + "step ^f 5");
        fault(3, told + "step ^f(a,a)");
        fault(3, told + "step ^f(a,a,a)%");
        fault(3, told + "step ^g(a) by r;");
        fault(3, told + "step ^a(a) by r;");
        fault(3, told + "step \n ^a \n (\n a \n )");
        fault(1, told + "step f(a,a^");
        fault(1, told + "step f(a,a^;");
        fault(1, told + "step f(a,^%");
        fault(1, told + "step g(a^");
        fault(3, told + "step f(^f)");
        fault(3, told + "step f(^f(a,g(a,a)))");
        fault(3, told + "step f(^g(a),a)");
        fault(4, told + "step f(f(f(f(f(f(a^(a");
    }

    private static void seventhBracket() {
        says("4 the 7th ( that is open at once, at it;");
        right("rule r gives f(f(f(f(f(f(a))))));", 1);
        fault(4, "rule r gives f(f(f(f(f(f(f^(a)))))));");
        fault(4, "rule r f(f(f(f(f(f(f^(");
        fault(4, "rule r gives a;step f(f(f(f(f(f(f \n ^(");
        right("rule r gives g(f(f(f(f(f(a))))),f(f(f(f(f(a))))),f(f(f(f(f(a))))));", 1);
        fault(4, "rule r gives g(f(f(f(f(f(a))))),f(f(f(f(f(f^(a)))))));");
        right("rule r f(f(f(f(f(f(a)))))),f(f(f(f(f(f(a)))))) gives f(f(f(f(f(f(a))))));", 1);
        fault(1, "rule r gives f(f(f(f(f(f(^(");
        fault(1, "rule r gives f(f(f(f(f(f(?a^(");
    }

    private static void oneTooMany() {
        says("5 one too many of a kind (");
        fault(5, many(12, "rule @ gives a;") + " \n ^rule");
        fault(5, many(12, "rule @ gives a;") + "^rule a");
        fault(5, many(12, "rule @ gives a;") + "^rule;");
        fault(5, "rule r gives a;" + many(40, "step a by r;") + "^step");
        fault(5, "rule r gives a;" + many(40, "step a by r;") + "^step to");
        fault(5, FOUR + many(6, "reader x@ odds 1 from 0 to 0;") + "^reader");
        fault(5, FOUR + many(6, "reader x@ odds 1 from 0 to 0;") + "^reader xa");
        right("rule r gives a;step a by r;" + many(50, "goal 0;"), 52);
    }

    private static void tooManyNames() {
        says("(of SIGNS, HOLES: at the NAME;");
        fault(5, signs(24) + "rule x gives \n ^t");
        fault(5, signs(24) + "rule x gives ^t(a);");
        fault(5, signs(24) + "rule x gives ^sy%");
        fault(5, signs(24) + "rule x gives ^ha;");
        fault(5, holes(12) + "rule x gives ?^ya");
        fault(5, holes(12) + "rule x gives ?  \n^ya;");
        fault(5, holes(12) + "rule x gives f(a,?^sa);");
        right(holes(12) + "rule x gives ya;", 5);
        right(signs(24) + "rule x gives ?ya;", 9);
    }

    private static void tooManyInTerms() {
        says("in a TERM, in all TERMS: at the NAME that is too many)");
        fault(5, "rule r gives i(" + twenty() + ",q(a,a,^a));");
        fault(5, "rule r gives i(" + twenty() + ",q(a,a,?\n^a));");
        fault(5, "rule r gives i(" + twenty() + ",q(a,a,^b(");
        fault(5, "rule r gives i(" + twenty() + ",q(a,a,^a%");
        fault(1, "rule r gives i(" + twenty() + ",q(a,a,^%");
        fault(5, fourHundred() + "step \n ^a%");
        fault(5, fourHundred() + "step ?\n^b");
        fault(5, fourHundred() + "rule s ^b(");
        fault(1, fourHundred() + "step ^%");
        fault(1, fourHundred() + "step ?^?");
    }

    private static void statementTooMany() {
        says("an 81st STATEMENT (whatever stands there), at its first byte.");
        String most = "rule r gives a;step a by r;" + many(78, "goal 0;");
        right(most, 80);
        right(most + "\n \n", 80);
        String[] others = {"goal 0;", "goal 9;", "goal", "rule r", "rule s gives a;", "step a by r;", "step", "reader r",
            "to", "x", "abcdefgh", "123456", ";", "%", "(", "\t", "\u0000", "\u00ff"};
        for (String other : others) {
            fault(5, most + "^" + other);
            fault(5, most + " \n ^" + other);
        }
    }
}
