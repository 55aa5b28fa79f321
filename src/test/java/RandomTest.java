import java.util.ArrayList;
import java.util.List;
import java.util.Random;
import java.util.Set;

/** Texts drawn by a fixed seed: what the program answers is what the oracle works out from the document. */
public final class RandomTest {
    private static final int NONE = LongProof.NONE;
    private static Random random;
    private static String text;

    public static void main(String[] args) {
        for (int k = 0; k < 700 && Told.isAllRight(); k++) {
            random = new Random(k);
            text = Drawn.text(random, k % 3 == 0 ? 6 : k % 3 == 1 ? 11 : 15);
            compare();
        }
        for (int k = 0; k < 60 && Told.isAllRight(); k++) {
            random = new Random(1000 + k);
            text = Drawn.text(random, 24 + k % 17);
            compare();
        }
        Told.close();
    }

    private static void due(String call, long got, long want) {
        Told.due(text + " : " + call, got, want);
    }

    private static int flag(boolean is) {
        return is ? 1 : 0;
    }

    private static void compare() {
        LongProof x = new LongProof();
        Oracle o = new Oracle(text);
        due("proof()", Told.tell(x, text), o.statements);
        counts(x, o);
        names(x, o);
        steps(x, o);
        rest(x, o);
        pairs(x, o);
        runs(x, o);
        orders(x, o);
        for (int round = 0; round < 3; round++) {
            blame(x, o);
            readers(x, o);
            image(x, o);
        }
    }

    private static void counts(LongProof x, Oracle o) {
        int[] want = {o.rules.size(), o.steps.size(), o.readers.size(), o.signs.size(), o.holes.size(), o.goal,
            0, 0, 0, 0, o.rest().size(), o.wrong.size(), o.countFallen(o.wrong), o.asked.size(), NONE};
        for (int k = 0; k < o.steps.size(); k++) {
            want[6] += flag(o.isRight(k));
            want[7] += flag(o.isNeeded(k));
            want[8] += flag(o.firstSame(k) != k);
            want[9] += flag(o.coverer(k) != NONE);
        }
        for (int what = 0; what < want.length; what++) {
            due("has(" + what + ")", x.has(what), want[what]);
        }
    }

    private static void names(LongProof x, Oracle o) {
        List<String> rules = new ArrayList<>();
        o.rules.forEach(rule -> rules.add(rule.name()));
        List<String> readers = new ArrayList<>();
        o.readers.forEach(reader -> readers.add(reader.name()));
        List<List<String>> kinds = List.of(rules, readers, o.signs, o.holes);
        for (int kind = -1; kind <= 4; kind++) {
            List<String> list = kind < 0 || kind > 3 ? List.of() : kinds.get(kind);
            for (int which = -1; which <= list.size(); which++) {
                for (int k = -1; k <= 6; k++) {
                    int want = NONE;
                    if (which >= 0 && which < list.size() && k >= 0 && k < 6) {
                        String name = list.get(which);
                        want = k < name.length() ? name.charAt(k) - 'a' + 1 : 0;
                    }
                    due("letter(" + kind + ", " + which + ", " + k + ")", x.letter(kind, which, k), want);
                }
            }
        }
    }

    private static void steps(LongProof x, Oracle o) {
        int vitals = 0;
        int wrong = NONE;
        for (int k = 0; k < o.steps.size(); k++) {
            Oracle.Step step = o.steps.get(k);
            int named = 0;
            int covered = 0;
            for (int j = 0; j < o.steps.size(); j++) {
                named += flag(o.steps.get(j).names().contains(k));
                covered += flag(o.covers(k, j));
                due("upon(" + k + ", " + j + ")", x.upon(k, j), flag(o.isUpon(k, j)));
            }
            int[] want = {step.rule(), step.names().size(), flag(o.isRight(k)), flag(o.isNeeded(k)), o.firstSame(k),
                o.coverer(k), o.rest().indexOf(k), flag(o.isFallen(k, o.wrong)), named, step.term().size(),
                o.seen(k, o.asked), NONE};
            for (int what = 0; what < want.length; what++) {
                due("step(" + k + ", " + what + ")", x.step(k, what), want[what]);
            }
            for (int j = -1; j < 4; j++) {
                due("names", x.names(k, j), j >= 0 && j < step.names().size() ? step.names().get(j) : NONE);
            }
            due("depth(" + k + ")", x.depth(k), o.depth(k));
            due("load(" + k + ")", x.load(k), o.load(k));
            due("covers(" + k + ")", x.covers(k), covered);
            due("vital(" + k + ")", x.vital(k), flag(o.isVital(k)));
            if (o.isVital(k)) {
                due("vitals(" + vitals + ")", x.vitals(vitals++), k);
            }
            wrong = wrong == NONE && !o.isRight(k) ? k : wrong;
        }
        due("vitals at end", x.vitals(vitals), NONE);
        due("wrong()", x.wrong(), wrong);
    }

    private static void rest(LongProof x, Oracle o) {
        List<Integer> rest = o.rest();
        for (int k = -1; k <= rest.size(); k++) {
            boolean is = k >= 0 && k < rest.size();
            due("rest(" + k + ")", x.rest(k), is ? rest.get(k) : NONE);
            for (int j = -1; j < 4; j++) {
                boolean leans = is && j >= 0 && j < o.restLeans().get(k).size();
                due("leans(" + k + ", " + j + ")", x.leans(k, j), leans ? o.restLeans().get(k).get(j) : NONE);
            }
        }
    }

    private static void pairs(LongProof x, Oracle o) {
        for (int a = 0; a < o.steps.size(); a++) {
            List<Integer> self = o.common(a, a);
            for (int k = -1; k <= self.size(); k++) {
                due("term(" + a + ", " + k + ")", x.term(a, k), k >= 0 && k < self.size() ? self.get(k) : NONE);
            }
            for (int b = 0; b < o.steps.size(); b++) {
                List<Integer> cells = o.common(a, b);
                long made = cells.stream().filter(cell -> cell >= 200).count();
                long unlike = cells.stream().filter(cell -> cell >= 200).distinct().count();
                due("beside 0", x.beside(a, b, 0), cells.size());
                due("beside 1", x.beside(a, b, 1), made);
                due("beside 2", x.beside(a, b, 2), unlike);
                for (int k = -1; k <= cells.size(); k++) {
                    due("common(" + a + ", " + b + ", " + k + ")", x.common(a, b, k),
                            k >= 0 && k < cells.size() ? cells.get(k) : NONE);
                }
            }
        }
    }

    private static void runs(LongProof x, Oracle o) {
        for (int n = 1; n <= 9; n++) {
            for (int a = -1; a <= o.steps.size(); a++) {
                due("run(" + a + ", " + n + ")", x.run(a, n), o.run(a, n));
                due("worth(" + a + ", " + n + ")", x.worth(a, n), o.worth(a, n));
                for (int b = -1; b <= o.steps.size(); b++) {
                    due("alike(" + a + ", " + b + ", " + n + ")", x.alike(a, b, n), o.alike(a, b, n));
                }
            }
        }
        for (int what = -1; what <= 3; what++) {
            due("lemma(" + what + ")", x.lemma(what), o.lemma(what));
        }
    }

    private static void orders(LongProof x, Oracle o) {
        due("held()", x.held(), o.heldAsNumbered());
        int count = o.rest().size();
        int[] best = o.bestOrder();
        for (int k = -2; k <= count; k++) {
            boolean is = best != null && k >= -1 && k < count;
            due("order(" + k + ")", x.order(k), is ? best[k + 1] : NONE);
        }
        for (int p = 0; p <= 41; p++) {
            boolean is = p >= 1 && p <= 40 && count > 0;
            if (is && Math.pow(p, (count + p - 1) / p) > 1e5) {
                continue;
            }
            int[] cuts = is ? o.bestPages(p) : new int[0];
            due("pages(" + p + ", -1)", x.pages(p, -1), NONE);
            due("pages(" + p + ", 0)", x.pages(p, 0), is ? cuts.length - 1 : NONE);
            due("pages(" + p + ", 1)", x.pages(p, 1), is ? cuts[0] : NONE);
            for (int k = 0; k <= cuts.length; k++) {
                due("pages(" + p + ", " + (2 + k) + ")", x.pages(p, 2 + k), k + 1 < cuts.length ? cuts[k + 1] : NONE);
            }
        }
    }

    private static void blame(LongProof x, Oracle o) {
        for (int k = 0; k < 2; k++) {
            int rule = random.nextInt(o.rules.size() + 2) - 1;
            boolean is = random.nextBoolean();
            boolean there = rule >= 0 && rule < o.rules.size();
            if (there && is) {
                o.wrong.add(rule);
            } else if (there) {
                o.wrong.remove(rule);
            }
            due("blame(" + rule + ", " + is + ")", x.blame(rule, is), there ? o.countFallen(o.wrong) : NONE);
        }
        due("stands()", x.stands(), o.stands());
        if (o.steps.size() <= 15) {
            long best = o.fewest();
            due("fewest(-1) " + o.wrong, x.fewest(NONE), best == 0 ? NONE : Long.bitCount(best));
            int k = 0;
            for (int step = 0; step < o.steps.size(); step++) {
                if ((best >> step & 1) != 0) {
                    due("fewest(" + k + ") " + o.wrong, x.fewest(k++), step);
                }
            }
            due("fewest(" + k + ")", x.fewest(k), NONE);
        }
        for (int rule = -1; rule <= o.rules.size(); rule++) {
            boolean there = rule >= 0 && rule < o.rules.size();
            int by = 0;
            for (Oracle.Step step : o.steps) {
                by += flag(step.rule() == rule);
            }
            due("rule 0", x.rule(rule, 0), there ? o.rules.get(rule).premises().size() : NONE);
            due("rule 1", x.rule(rule, 1), there ? by : NONE);
            due("rule 2", x.rule(rule, 2), there ? flag(o.wrong.contains(rule)) : NONE);
            due("rule 3", x.rule(rule, 3), there ? o.countFallen(Set.of(rule)) : NONE);
            due("rule 4", x.rule(rule, 4), NONE);
        }
    }

    private static void readers(LongProof x, Oracle o) {
        for (int k = 0; k < 2; k++) {
            int reader = random.nextInt(o.readers.size() + 2) - 1;
            boolean is = random.nextInt(3) > 0;
            boolean there = reader >= 0 && reader < o.readers.size();
            if (there && is) {
                o.asked.add(reader);
            } else if (there) {
                o.asked.remove(reader);
            }
            due("ask(" + reader + ", " + is + ")", x.ask(reader, is), there ? o.asked.size() : NONE);
        }
        boolean steps = !o.steps.isEmpty();
        due("least(0)", x.least(0), steps ? o.least(o.asked)[0] : NONE);
        due("least(1)", x.least(1), steps ? o.least(o.asked)[1] : NONE);
        due("whom()", x.whom(), o.whom());
        int seed = random.nextInt();
        due("seed(" + seed + ")", flag(x.seed(seed)), flag(seed >= 0));
        o.seed = seed >= 0 ? seed : o.seed;
        for (int k = 0; k < 4; k++) {
            int step = random.nextInt(o.steps.size() + 2) - 1;
            int n = random.nextInt(60);
            boolean is = o.hasStep(step) && n > 0;
            due("trials(" + step + ", " + n + ")", x.trials(step, n), is ? o.trials(step, n) : NONE);
        }
        counts(x, o);
        steps(x, o);
    }

    private static void image(LongProof x, Oracle o) {
        due("image()", x.image(), 4);
        int[] want = o.image();
        byte[] bytes = new byte[4];
        for (int k = 0; k < 4; k++) {
            due("octet(" + k + ")", x.octet(k), want[k]);
            bytes[k] = (byte) want[k];
        }
        LongProof other = new LongProof();
        Told.tell(other, text);
        Told.feedBytes(other, bytes);
        due("on()", flag(other.on()), 1);
        counts(other, o);
    }
}
