import java.util.ArrayList;
import java.util.Arrays;
import java.util.HashMap;
import java.util.LinkedHashMap;
import java.util.List;
import java.util.Map;
import java.util.TreeSet;

/**
 * The document's words again, as plainly as can be and by other ways than the program's: TERMS are trees,
 * sets are sets, and what is the least of all is looked for among all. It knows texts without faults only.
 */
final class Oracle {
    static final int NONE = -1;

    /** A SIGN with its parts, or a HOLE. */
    static final class Node {
        final String name;
        final boolean hole;
        final List<Node> parts = new ArrayList<>();

        Node(String name, boolean hole) {
            this.name = name;
            this.hole = hole;
        }

        @Override
        public String toString() {
            return (hole ? "?" : "") + name + (parts.isEmpty() ? "" : parts.toString());
        }

        int size() {
            int size = 1;
            for (Node part : parts) {
                size += part.size();
            }
            return size;
        }
    }

    record Rule(String name, List<Node> premises, Node gives) {
    }

    record Step(Node term, int rule, List<Integer> names) {
        String told() {
            return term.toString();
        }
    }

    record Reader(String name, int odds, int from, int to) {
    }

    final List<Rule> rules = new ArrayList<>();
    final List<Step> steps = new ArrayList<>();
    final List<Reader> readers = new ArrayList<>();
    final List<String> signs = new ArrayList<>();
    final List<String> holes = new ArrayList<>();
    final TreeSet<Integer> wrong = new TreeSet<>();
    final TreeSet<Integer> asked = new TreeSet<>();
    int goal = NONE;
    long seed = 1;
    int statements;

    private int goalInRest;
    private String[] words;
    private int next;

    Oracle(String text) {
        words = text.replaceAll("([(),;?])", " $1 ").trim().split("\\s+");
        next = 0;
        int told = NONE;
        while (next < words.length && !words[next].isEmpty()) {
            switch (take()) {
                case "rule" -> readRule();
                case "step" -> readStep();
                case "goal" -> told = Integer.parseInt(take());
                default -> {
                    String name = take();
                    take();
                    int odds = Integer.parseInt(take());
                    take();
                    int from = Integer.parseInt(take());
                    take();
                    readers.add(new Reader(name, odds, from, Integer.parseInt(take())));
                }
            }
            take();
            statements++;
        }
        goal = told == NONE ? steps.size() - 1 : told;
    }

    private String take() {
        return words[next++];
    }

    private void readRule() {
        String name = take();
        List<Node> premises = new ArrayList<>();
        while (!words[next].equals("gives")) {
            premises.add(readTerm());
            if (words[next].equals(",")) {
                take();
            }
        }
        take();
        rules.add(new Rule(name, premises, readTerm()));
    }

    private void readStep() {
        Node term = readTerm();
        take();
        String by = take();
        int rule = 0;
        while (!rules.get(rule).name.equals(by)) {
            rule++;
        }
        List<Integer> names = new ArrayList<>();
        while (!words[next].equals(";")) {
            names.add(Integer.parseInt(take()));
        }
        steps.add(new Step(term, rule, names));
    }

    private Node readTerm() {
        boolean hole = words[next].equals("?");
        if (hole) {
            take();
        }
        Node node = new Node(take(), hole);
        List<String> known = hole ? holes : signs;
        if (!known.contains(node.name)) {
            known.add(node.name);
        }
        if (!hole && words[next].equals("(")) {
            do {
                take();
                node.parts.add(readTerm());
            } while (words[next].equals(","));
            take();
        }
        return node;
    }

    boolean hasStep(int step) {
        return step >= 0 && step < steps.size();
    }

    static boolean fits(Node pattern, Node term, Map<String, String> taken) {
        if (pattern.hole) {
            String before = taken.putIfAbsent(pattern.name, term.toString());
            return before == null || before.equals(term.toString());
        }
        if (term.hole || !pattern.name.equals(term.name)) {
            return false;
        }
        for (int k = 0; k < pattern.parts.size(); k++) {
            if (!fits(pattern.parts.get(k), term.parts.get(k), taken)) {
                return false;
            }
        }
        return true;
    }

    boolean isRight(int step) {
        Step it = steps.get(step);
        Rule rule = rules.get(it.rule);
        Map<String, String> taken = new HashMap<>();
        for (int k = 0; k < rule.premises.size(); k++) {
            if (!fits(rule.premises.get(k), steps.get(it.names.get(k)).term, taken)) {
                return false;
            }
        }
        return fits(rule.gives, it.term, taken);
    }

    boolean isUpon(int step, int other) {
        return below(step).contains(other);
    }

    private TreeSet<Integer> below(int step) {
        TreeSet<Integer> below = new TreeSet<>(steps.get(step).names);
        for (int k = step; k >= 0; k--) {
            if (below.contains(k)) {
                below.addAll(steps.get(k).names);
            }
        }
        return below;
    }

    boolean isNeeded(int step) {
        return step == goal || isUpon(goal, step);
    }

    int firstSame(int step) {
        int first = 0;
        while (!steps.get(first).told().equals(steps.get(step).told())) {
            first++;
        }
        return first;
    }

    boolean covers(int step, int other) {
        return step < other && fits(steps.get(step).term, steps.get(other).term, new HashMap<>());
    }

    int coverer(int step) {
        for (int k = 0; k < step; k++) {
            if (covers(k, step)) {
                return k;
            }
        }
        return NONE;
    }

    List<Integer> rest() {
        TreeSet<Integer> rest = new TreeSet<>();
        if (goal != NONE) {
            collect(firstSame(goal), rest);
        }
        return new ArrayList<>(rest);
    }

    private void collect(int step, TreeSet<Integer> into) {
        if (into.add(step)) {
            for (int named : steps.get(step).names) {
                collect(firstSame(named), into);
            }
        }
    }

    /** THE REST's leanings by its own numbers. */
    List<List<Integer>> restLeans() {
        List<Integer> rest = rest();
        List<List<Integer>> all = new ArrayList<>();
        for (int step : rest) {
            List<Integer> leans = new ArrayList<>();
            for (int named : steps.get(step).names) {
                leans.add(rest.indexOf(firstSame(named)));
            }
            all.add(leans);
        }
        return all;
    }

    int depth(int step) {
        int[] deep = new int[step + 1];
        for (int k = 0; k <= step; k++) {
            for (int named : steps.get(k).names) {
                deep[k] = Math.max(deep[k], deep[named]);
            }
            deep[k]++;
        }
        return deep[step];
    }

    int load(int step) {
        int count = 0;
        for (int k = 0; k < steps.size(); k++) {
            count += isNeeded(k) && isUpon(k, step) ? 1 : 0;
        }
        return count;
    }

    boolean isVital(int out) {
        boolean[] proved = new boolean[steps.size()];
        boolean isProved = false;
        for (int k = 0; k < steps.size(); k++) {
            proved[k] = k != out;
            for (int named : steps.get(k).names) {
                boolean some = false;
                for (int j = 0; j < k; j++) {
                    some |= proved[j] && steps.get(j).told().equals(steps.get(named).told());
                }
                proved[k] &= some;
            }
            isProved |= proved[k] && steps.get(k).told().equals(steps.get(goal).told());
        }
        return !isProved;
    }

    /** The TERM that two TERMS give, from the left on. */
    List<Integer> common(int first, int second) {
        List<Integer> cells = new ArrayList<>();
        lay(steps.get(first).term, steps.get(second).term, new LinkedHashMap<>(), cells);
        return cells;
    }

    private void lay(Node one, Node other, Map<String, Integer> pairs, List<Integer> cells) {
        if (one.hole != other.hole || !one.name.equals(other.name)) {
            String pair = one + " | " + other;
            pairs.putIfAbsent(pair, pairs.size());
            cells.add(200 + pairs.get(pair));
            return;
        }
        cells.add(one.hole ? 100 + holes.indexOf(one.name) : signs.indexOf(one.name));
        for (int k = 0; k < one.parts.size(); k++) {
            lay(one.parts.get(k), other.parts.get(k), pairs, cells);
        }
    }

    int run(long first, int n) {
        if (n < 2 || n > 8 || first < 0 || first + n > steps.size()) {
            return NONE;
        }
        for (int k = 0; k < steps.size(); k++) {
            boolean outside = k < first || k >= first + n;
            for (int named : steps.get(k).names) {
                if (outside && named >= first && named < first + n - 1) {
                    return 0;
                }
            }
        }
        return 1;
    }

    int alike(int first, int second, int n) {
        if (run(first, n) != 1 || run(second, n) != 1) {
            return NONE;
        }
        if (first < second + n && second < first + n) {
            return NONE;
        }
        for (int k = 0; k < n; k++) {
            Step one = steps.get(first + k);
            Step other = steps.get(second + k);
            if (one.rule != other.rule) {
                return 0;
            }
            for (int j = 0; j < one.names.size(); j++) {
                int a = one.names.get(j);
                int b = other.names.get(j);
                boolean samePlace = a >= first && b >= second && a - first == b - second;
                boolean ahead = a < first && a < second && b < first && b < second;
                if (!samePlace && !ahead) {
                    return 0;
                }
            }
        }
        return 1;
    }

    int worth(int first, int n) {
        if (run(first, n) != 1) {
            return NONE;
        }
        for (int k = 0; k < first; k++) {
            if (alike(k, first, n) == 1) {
                return NONE;
            }
        }
        return worthOf(first, n);
    }

    private int worthOf(int first, int n) {
        int r = 1;
        int at = first + n;
        while (at < steps.size()) {
            if (alike(first, at, n) == 1) {
                r++;
                at += n;
            } else {
                at++;
            }
        }
        return r * (n - 1) - n;
    }

    int lemma(int what) {
        int[] best = {NONE, NONE, 0};
        for (int n = 8; n >= 2; n--) {
            for (int first = steps.size() - 1; first >= 0; first--) {
                int worth = worth(first, n);
                boolean better = worth > best[2] || worth == best[2]
                        && (first < best[0] || first == best[0] && n < best[1]);
                if (worth > 0 && better) {
                    best = new int[] {first, n, worth};
                }
            }
        }
        return best[2] == 0 || what < 0 || what > 2 ? NONE : best[what];
    }

    private int held(TreeSet<Integer> told, List<List<Integer>> leans) {
        int held = 0;
        for (int which : told) {
            boolean wanted = which == goalInRest;
            for (int k = 0; k < leans.size(); k++) {
                wanted |= !told.contains(k) && leans.get(k).contains(which);
            }
            held += wanted ? 1 : 0;
        }
        return held;
    }

    int heldAsNumbered() {
        goalInRest = goal == NONE ? NONE : rest().indexOf(firstSame(goal));
        List<List<Integer>> leans = restLeans();
        TreeSet<Integer> told = new TreeSet<>();
        int most = NONE;
        for (int k = 0; k < leans.size(); k++) {
            told.add(k);
            most = Math.max(most, held(told, leans));
        }
        return most;
    }

    /** The least ever HELD, and the first ORDER behind it: among all ORDERS. */
    int[] bestOrder() {
        List<List<Integer>> leans = restLeans();
        if (leans.isEmpty() || leans.size() > 14) {
            return null;
        }
        int[] best = new int[leans.size() + 1];
        best[0] = Integer.MAX_VALUE;
        goalInRest = rest().indexOf(firstSame(goal));
        tryOrders(leans, new TreeSet<>(), new ArrayList<>(), 0, best);
        return best;
    }

    private void tryOrders(List<List<Integer>> leans, TreeSet<Integer> told, List<Integer> order, int most, int[] best) {
        if (most >= best[0]) {
            return;
        }
        if (order.size() == leans.size()) {
            best[0] = most;
            for (int k = 0; k < order.size(); k++) {
                best[k + 1] = order.get(k);
            }
            return;
        }
        for (int k = 0; k < leans.size(); k++) {
            if (!told.contains(k) && told.containsAll(leans.get(k))) {
                told.add(k);
                order.add(k);
                tryOrders(leans, told, order, Math.max(most, held(told, leans)), best);
                told.remove(k);
                order.remove(order.size() - 1);
            }
        }
    }

    /** The first of the best cuts: looks back, then where the pages begin. */
    int[] bestPages(int p) {
        List<List<Integer>> leans = restLeans();
        int pages = (leans.size() + p - 1) / p;
        int[] starts = new int[pages];
        int[] best = new int[pages + 1];
        best[0] = Integer.MAX_VALUE;
        tryCuts(leans, p, starts, 1, best);
        return best;
    }

    private void tryCuts(List<List<Integer>> leans, int p, int[] starts, int page, int[] best) {
        if (page == starts.length) {
            if (leans.size() - starts[page - 1] <= p) {
                int looks = looks(leans, starts);
                if (looks < best[0]) {
                    best[0] = looks;
                    System.arraycopy(starts, 0, best, 1, starts.length);
                }
            }
            return;
        }
        for (int k = 1; k <= p && starts[page - 1] + k < leans.size(); k++) {
            starts[page] = starts[page - 1] + k;
            tryCuts(leans, p, starts, page + 1, best);
        }
    }

    private static int looks(List<List<Integer>> leans, int[] starts) {
        int looks = 0;
        for (int k = 0; k < leans.size(); k++) {
            for (int on : leans.get(k)) {
                looks += pageOf(starts, on) < pageOf(starts, k) ? 1 : 0;
            }
        }
        return looks;
    }

    private static int pageOf(int[] starts, int which) {
        int page = 0;
        while (page + 1 < starts.length && starts[page + 1] <= which) {
            page++;
        }
        return page;
    }

    boolean isFallen(int step, java.util.Set<Integer> rulesWrong) {
        boolean fallen = rulesWrong.contains(steps.get(step).rule);
        for (int under : below(step)) {
            fallen |= rulesWrong.contains(steps.get(under).rule);
        }
        return fallen;
    }

    int countFallen(java.util.Set<Integer> rulesWrong) {
        int count = 0;
        for (int k = 0; k < steps.size(); k++) {
            count += isFallen(k, rulesWrong) ? 1 : 0;
        }
        return count;
    }

    int stands() {
        if (goal == NONE) {
            return NONE;
        }
        for (int k = 0; k < steps.size(); k++) {
            if (steps.get(k).told().equals(steps.get(goal).told()) && !isFallen(k, wrong)) {
                return 1;
            }
        }
        return 0;
    }

    /** THE FEWEST among all sets of STEPS, as bits; 0 without, or when it is not searched. */
    long fewest() {
        Map<String, Integer> counts = new HashMap<>();
        for (Step step : steps) {
            if (!wrong.contains(step.rule)) {
                counts.merge(step.told(), 1, Integer::sum);
            }
        }
        long ways = 1;
        for (int count : counts.values()) {
            ways *= count;
        }
        long best = 0;
        for (long set = 1; ways <= 4096 && set < 1L << steps.size(); set++) {
            if ((best == 0 || Long.bitCount(set) < Long.bitCount(best)) && proves(set)) {
                best = set;
            }
        }
        return best;
    }

    private boolean proves(long set) {
        boolean holdsGoal = false;
        for (int k = 0; k < steps.size(); k++) {
            if ((set >> k & 1) == 0) {
                continue;
            }
            if (wrong.contains(steps.get(k).rule)) {
                return false;
            }
            holdsGoal |= firstSame(k) == firstSame(goal);
            for (int named : steps.get(k).names) {
                boolean some = false;
                for (int j = 0; j < k; j++) {
                    some |= (set >> j & 1) != 0 && firstSame(j) == firstSame(named);
                }
                if (!some) {
                    return false;
                }
            }
        }
        return holdsGoal;
    }

    int seen(int step, java.util.Set<Integer> who) {
        int left = 1000;
        for (int k = 0; k < readers.size(); k++) {
            Reader reader = readers.get(k);
            if (who.contains(k) && reader.from <= step && step <= reader.to) {
                left = Math.floorDiv(left * (100 - reader.odds), 100);
            }
        }
        return 1000 - left;
    }

    int[] least(java.util.Set<Integer> who) {
        int[] best = {Integer.MAX_VALUE, NONE};
        for (int k = 0; k < steps.size(); k++) {
            if (isNeeded(k) && seen(k, who) < best[0]) {
                best = new int[] {seen(k, who), k};
            }
        }
        return best;
    }

    int whom() {
        int best = NONE;
        int most = NONE;
        for (int k = 0; goal != NONE && k < readers.size(); k++) {
            TreeSet<Integer> with = new TreeSet<>(asked);
            if (with.add(k) && least(with)[0] > most) {
                most = least(with)[0];
                best = k;
            }
        }
        return best;
    }

    int trials(int step, int n) {
        int count = 0;
        for (int k = 0; k < n; k++) {
            boolean isSeen = false;
            for (int who : asked) {
                Reader reader = readers.get(who);
                if (reader.from <= step && step <= reader.to) {
                    seed = (1103515245L * seed + 12345L) % (1L << 31);
                    isSeen |= Math.floorDiv(seed, 64L) % 100 < reader.odds;
                }
            }
            count += isSeen ? 1 : 0;
        }
        return count;
    }

    int[] image() {
        int[] bytes = new int[4];
        for (int rule : wrong) {
            bytes[rule / 8 == 1 ? 0 : 1] |= 1 << rule % 8;
        }
        for (int who : asked) {
            bytes[2] |= 1 << who;
        }
        int c = 61;
        for (int k = 0; k < 3; k++) {
            c = (7 * c + bytes[k]) % 247;
        }
        bytes[3] = c;
        return bytes;
    }

    @Override
    public String toString() {
        return Arrays.toString(words);
    }
}
