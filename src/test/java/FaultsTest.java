/**
 * FAULTS of texts (promises 4 and 5, Terms I). In each text ^ marks where the fault is due; it is taken
 * out before the text is fed.
 */
public final class FaultsTest {
    private static final String A = "rule r gives a; ";
    private static final String S = A + "rule s ?x gives f(?x); step a by r; ";

    public static void main(String[] args) {
        unfit();
        words();
        numbers();
        sides();
        cannotBe();
        named();
        parts();
        deep();
        many();
        manyInTerms();
        statements();
        right();
        allStays();
        Told.close();
    }

    private static void fault(int kind, String marked) {
        int place = marked.indexOf('^');
        String text = marked.substring(0, place) + marked.substring(place + 1);
        LongProof x = new LongProof();
        Told.due("proof() of " + text, Told.tell(x, text), LongProof.NONE);
        Told.due("fault(0) of " + text, x.fault(0), kind);
        Told.due("fault(1) of " + text, x.fault(1), place);
    }

    private static void right(String text, int statements) {
        LongProof x = new LongProof();
        Told.due("proof() of " + text, Told.tell(x, text), statements);
        Told.due("fault(0) of " + text, x.fault(0), 0);
        Told.due("fault(1) of " + text, x.fault(1), LongProof.NONE);
    }

    private static void unfit() {
        fault(1, "^;");
        fault(1, "^%");
        fault(1, "  ^(");
        fault(1, "rule^");
        fault(1, "rule ^");
        fault(1, "rule r^");
        fault(1, "rule r gives^");
        fault(1, "rule r gives  ^");
        fault(1, "rule r gives a^");
        fault(1, "rule r gives a\n \n^");
        fault(1, "rule r gives a ^rule");
        fault(1, "rule r gives a^,");
        fault(1, "rule r gives a;^;");
        fault(1, "rule r^, a gives b;");
        fault(1, "rule r a^; gives b;");
        fault(1, "rule r a, b, c^, d gives b;");
        fault(1, "rule r a,^, d gives b;");
        fault(1, "rule r a, ^gives b;");
        fault(1, "rule r gives f(a, b, c^, d);");
        fault(1, "rule r gives f(^);");
        fault(1, "rule r gives f(a,^);");
        fault(1, "rule r gives f(a^;");
        fault(1, "rule r gives f(a^");
        fault(1, "rule r gives f(^");
        fault(1, "rule r gives f(a)^(b);");
        fault(1, "rule r gives f(a)^);");
        fault(1, "rule r gives ?^;");
        fault(1, "rule r gives ?^");
        fault(1, "rule r gives ?^?x;");
        fault(1, "rule r gives ?x^(a);");
        fault(1, "rule r gives ^(a);");
        fault(1, "rule^\tr gives a;");
        fault(1, "rule r gives a^\r;");
        fault(1, "rule r gives ^A;");
        fault(1, "rule r gives a^B;");
        fault(1, "rule r gives a^\u00e9;");
        fault(1, "rule r gives a^\u0000;");
        fault(1, A + "step a^;");
        fault(1, A + "step a by^;");
        fault(1, A + "step a by r ^0;");
        fault(1, S + "step f(a) by s^;");
        fault(1, S + "step f(a) by s ^x;");
        fault(1, S + "step f(a) by s 0 ^0;");
        fault(1, S + "goal^;");
        fault(1, S + "goal ^x;");
        fault(1, S + "goal ^-1;");
        fault(1, S + "goal 0 ^0;");
        fault(1, S + "reader ^5;");
        fault(1, S + "reader u^;");
        fault(1, S + "reader u odds^;");
        fault(1, S + "reader u odds 5^;");
        fault(1, S + "reader u odds 5 ^to 0;");
        fault(1, S + "reader u odds 5 from 0^;");
        fault(1, S + "reader u odds 5 from 0 to^;");
        fault(1, S + "reader u odds 5 from 0 to 0^");
    }

    private static void words() {
        fault(1, "^ru");
        fault(1, "^rulex r gives a;");
        fault(1, "^rul e r gives a;");
        fault(1, "^gives");
        fault(1, "^abcdefghij");
        fault(1, "^readerreader x");
        fault(1, "rule abcdef^g gives a;");
        fault(1, "rule ^gives gives a;");
        fault(1, "rule r give^;");
        fault(1, "rule r abcdef^ghi gives a;");
        fault(1, "rule r givesx^;");
        fault(1, "rule r givesa^b;");
        fault(1, "rule r gives reader^s;");
        fault(1, "rule r gives f(abcdef^g);");
        fault(1, "rule r gives ?abcdef^g;");
        for (String own : new String[] {"rule", "gives", "step", "by", "goal", "reader", "odds", "from", "to"}) {
            fault(1, "rule ^" + own + " gives a;");
            fault(1, "rule r gives ^" + own + ";");
            fault(1, "rule r gives ?^" + own + ";");
            fault(1, "rule r gives f(a, ^" + own + ");");
            fault(1, A + "step a by ^" + own + ";");
            fault(1, "reader ^" + own + " odds 1 from 0 to 0;");
            if (!own.equals("gives")) {
                fault(1, "rule r ^" + own + " gives a;");
            }
            if (!own.equals("by")) {
                fault(1, A + "step a ^" + own + " r;");
            }
        }
        fault(1, A + "step a ^byr;");
        fault(1, A + "step a ^byrbyrbyr;");
        fault(1, A + "step a by abcdef^g;");
        fault(1, "reader abcdef^g odds 1 from 0 to 0;");
        fault(1, S + "reader x ^odd 1 from 0 to 0;");
        fault(1, S + "reader x ^oddsoddsodds 1 from 0 to 0;");
    }

    private static void numbers() {
        fault(1, S + "goal 0000^0;");
        fault(1, S + "goal 1234^5;");
        fault(1, S + "goal 9999^9999;");
        fault(2, S + "goal ^9999;");
        fault(2, S + "goal ^0001;");
        fault(1, S + "step f(a) by s 0000^0;");
        fault(1, S + "reader x odds 0000^5 from 0 to 0;");
        fault(1, "^12345");
        fault(1, "rule ^12345");
        right(S + "goal 0000;", 4);
        right(S + "step f(a) by s 000;", 4);
        right(S + "reader x odds 0100 from 00 to 0;", 4);
    }

    private static void sides() {
        fault(1, S + "step f(a) by s^0;");
        fault(1, S + "goal^0;");
        fault(1, S + "goal 0^x;");
        fault(1, S + "reader x odds^5 from 0 to 0;");
        fault(1, S + "reader x odds 5^from 0 to 0;");
        fault(1, S + "reader x odds 5 from^0 to 0;");
        fault(1, S + "reader x odds 5 from 0^to 0;");
        fault(1, S + "reader x odds 5 from 0 to^0;");
        fault(1, "rule^0");
        fault(1, "rule r^0 gives a;");
        fault(1, "rule r gives a^0;");
        right("rule r f(a)gives?x;rule s?x gives f(?x);rule t gives b;step f(a)by t;", 4);
        right("rule\nr\ngives\nf\n(\n?\nx\n,\na\n)\n;\n", 1);
        right("  rule r gives f (a ,b )  ;  ", 1);
    }

    private static void cannotBe() {
        fault(2, "goal ^0;");
        fault(2, A + "goal ^0;");
        fault(2, A + "step a by r; goal ^1;");
        fault(2, A + "step a by r; goal ^1x;");
        fault(2, "rule s ?x gives a; step a by s ^0;");
        fault(2, S + "step f(a) by s ^1;");
        fault(2, S + "step a by r; rule k ?x, ?y gives ?x; step a by k 1 ^2;");
        fault(2, S + "reader x odds ^101 from 0 to 0;");
        fault(2, S + "reader x odds 100 from ^1 to 0;");
        fault(2, S + "reader x odds 100 from 0 to ^1;");
        fault(2, S + "step a by r; reader x odds 0 from 1 to ^0;");
        fault(2, "reader x odds 0 from ^0 to 0;");
        right(S + "reader x odds 0 from 0 to 0; reader y odds 100 from 0 to 0;", 5);
    }

    private static void named() {
        fault(3, A + "rule ^r gives a;");
        fault(3, A + "rule ^r");
        fault(3, A + "rule ^r0");
        fault(3, S + "reader ^s odds 1 from 0 to 0;");
        fault(3, S + "reader x odds 1 from 0 to 0; reader ^x");
        fault(3, S + "reader x odds 1 from 0 to 0; rule ^x gives a;");
        fault(3, "step a by ^r;");
        fault(3, A + "step a by ^q0;");
        fault(3, S + "reader x odds 1 from 0 to 0; step a by ^x;");
        right("rule a gives a; rule b gives ?a; rule c gives ?b;", 3);
        right("rule r gives f(x); step ?f by r;", 2);
    }

    private static void parts() {
        fault(3, "rule r gives ^a(a);");
        fault(3, "rule r gives ^a(a)");
        fault(3, "rule r gives b(^a(a));");
        fault(3, "rule r gives b(a, ^a(c));");
        fault(3, "rule r gives a(^b(b), a);");
        fault(3, "rule r gives ^a(a(c), c);");
        fault(3, "rule r gives b(a(c), ^a);");
        fault(3, "rule r gives f(a); rule s gives ^f;");
        fault(3, "rule r gives f(a); rule s gives ^f");
        fault(3, "rule r gives f(a); rule s gives ^f%");
        fault(3, "rule r gives f(a); rule s ^f gives a;");
        fault(3, "rule r gives f(a); rule s gives ^f(a, a);");
        fault(3, "rule r gives f(a, a, a); step ^f(a, a) by r;");
        fault(1, "rule r gives f(a); rule s gives f(a, a^;");
        fault(1, "rule r gives f(a); rule s gives f(a, ^%);");
        fault(1, "rule r gives f(a); rule s gives f(a, a, a^, a);");
        fault(1, "rule r gives f(a, a); rule s gives f(a^");
        right("rule r gives f(f(f(a))); rule s gives ?f;", 2);
    }

    private static void deep() {
        right("rule r gives f(f(f(f(f(f(x))))));", 1);
        right("rule r gives g(f(f(f(f(f(x))))), f(f(f(f(f(x))))));", 1);
        fault(4, "rule r gives f(f(f(f(f(f(f^(x)))))));");
        fault(4, "rule r gives f(f(f(f(f(f(x^(");
        fault(4, "rule r gives g(a, f(f(f(f(f(f ^(");
        fault(1, "rule r gives f(f(f(f(f(f(?x^(");
    }

    private static void many() {
        StringBuilder rules = new StringBuilder();
        for (int k = 0; k < 12; k++) {
            rules.append("rule r").append(letter(k)).append(" gives a;");
        }
        right(rules.toString(), 12);
        fault(5, rules + " ^rule rz gives a;");
        fault(5, rules + " ^rule");
        fault(5, rules + " ^rule ra");
        fault(1, rules + " ^rules");
        StringBuilder steps = new StringBuilder(A);
        for (int k = 0; k < 40; k++) {
            steps.append("step a by r;");
        }
        right(steps.toString(), 41);
        fault(5, steps + "^step a by r;");
        fault(5, steps + "^step");
        right(steps + "goal 39; reader x odds 1 from 0 to 39;", 43);
        StringBuilder readers = new StringBuilder(S);
        for (int k = 0; k < 6; k++) {
            readers.append("reader r").append(letter(k)).append(" odds 1 from 0 to 0;");
        }
        right(readers.toString(), 9);
        fault(5, readers + "^reader x odds 1 from 0 to 0;");
        fault(5, readers + "^reader");
    }

    private static void manyInTerms() {
        StringBuilder rules = new StringBuilder();
        for (int k = 0; k < 8; k++) {
            rules.append("rule r").append(letter(k)).append(" s").append(letter(3 * k)).append(", s")
                    .append(letter(3 * k + 1)).append(" gives s").append(letter(3 * k + 2)).append(';');
        }
        right(rules.toString(), 8);
        right(rules + "rule z gives sa;", 9);
        fault(5, rules + "rule z gives ^sz;");
        fault(5, rules + "rule z gives ^sz(sa);");
        fault(1, rules + "rule z gives szzzzz^z;");
        StringBuilder holes = new StringBuilder();
        for (int k = 0; k < 4; k++) {
            holes.append("rule r").append(letter(k)).append(" ?h").append(letter(3 * k)).append(", ?h")
                    .append(letter(3 * k + 1)).append(" gives ?h").append(letter(3 * k + 2)).append(';');
        }
        right(holes.toString(), 4);
        right(holes + "rule z gives ?ha;", 5);
        fault(5, holes + "rule z gives ?^hz;");
        fault(5, holes + "rule z gives ?  ^hz;");
        manyCells();
    }

    private static void manyCells() {
        String ten = "h(q(a,a,a),q(a,a,a),?x)";
        String most = "k(" + ten + "," + ten + ",i(a,a))";
        right("rule r gives " + most + ";", 1);
        String tooMany = "rule r gives k(" + ten + "," + ten + ",q(a,a,^a));";
        fault(5, tooMany);
        fault(5, tooMany.replace("^a", "?^a"));
        fault(5, tooMany.replace("^a", "^a("));
        fault(1, tooMany.replace("^a", "^gives"));
        fault(1, tooMany.replace("^a", "aaaaaa^a"));
        fault(1, tooMany.replace("^a", "^)"));
        StringBuilder all = new StringBuilder("rule r gives " + most + ";");
        for (int k = 0; k < 15; k++) {
            all.append("step ").append(most).append("by r;");
        }
        String almost = all + "step " + ten + "by r;step i(a,a)by r;";
        right(almost + "step i(a,a)by r;", 19);
        fault(5, almost + "step i(a,a)by r;step ^a by r;");
        fault(5, almost + "step i(a,a)by r;rule s ? ^x");
        fault(5, almost + "step q(a,a,^a)by r;");
    }

    private static void statements() {
        StringBuilder goals = new StringBuilder("rule r gives a;step a by r;");
        for (int k = 0; k < 78; k++) {
            goals.append("goal 0;");
        }
        right(goals.toString(), 80);
        right(goals + " \n ", 80);
        fault(5, goals + " ^goal 0;");
        fault(5, goals + "^%");
        fault(5, goals + "^;");
        fault(5, goals + "^12345");
        fault(5, goals + "^readerreader");
    }

    private static void right() {
        right("", 0);
        right(" \n", 0);
        right("rule r gives a;", 1);
        right("rule r a gives b;", 1);
        right("rule r a, b gives c;", 1);
        right("rule r a, b, c gives ?d;", 1);
        right("rule abcdef gives f(a, b, c);", 1);
        right(A + "step a by r; goal 0; step b by r; goal 1; reader x odds 1 from 0 to 1;", 6);
        right("rule rules gives steps(goals);", 1);
        right("rule givesx gives givesx;", 1);
    }

    private static void allStays() {
        LongProof x = Told.of("rule r gives a; step a by r; reader u odds 50 from 0 to 0;");
        x.blame(0, true);
        x.ask(0, true);
        Told.due("fault(0) without", x.fault(0), 0);
        Told.due("proof with a fault", Told.tell(x, "rule q gives zz; step zz by q; goal 7;"), LongProof.NONE);
        Told.due("fault(0)", x.fault(0), 2);
        Told.due("fault(1)", x.fault(1), 36);
        Told.due("fault(2)", x.fault(2), LongProof.NONE);
        Told.due("fault(-1)", x.fault(-1), LongProof.NONE);
        Told.due("letter stays", x.letter(0, 0, 0), 18);
        Told.due("signs stay", x.has(3), 1);
        Told.due("sign stays", x.letter(2, 0, 0), 1);
        Told.due("wrong stays", x.has(11), 1);
        Told.due("asked stays", x.has(13), 1);
        Told.due("the tape goes", x.feed(0, 0, 0, 0, 0), 20);
        Told.due("proof without a fault", Told.tell(x, "rule q gives zz; step zz by q;"), 2);
        Told.due("no fault", x.fault(0), 0);
        Told.due("no place", x.fault(1), LongProof.NONE);
        Told.due("none wrong", x.has(11), 0);
        Told.due("none fallen", x.has(12), 0);
        Told.due("none asked", x.has(13), 0);
        Told.due("no reader", x.has(2), 0);
        Told.due("new letter", x.letter(0, 0, 0), 17);
        Told.due("empty proof", Told.tell(x, ""), 0);
        Told.due("no steps", x.has(1), 0);
        Told.due("no goal", x.has(5), LongProof.NONE);
    }

    private static char letter(int k) {
        return (char) ('a' + k);
    }
}
