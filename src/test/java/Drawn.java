import java.util.ArrayList;
import java.util.HashMap;
import java.util.List;
import java.util.Map;
import java.util.Random;

/**
 * Draws texts without faults: either of few names, so that much is told twice, covered and alike, or wide
 * ones, of many names and many leanings, so that much of them is needed.
 */
final class Drawn {
    private final Random random;
    private final int steps;
    private final int signs;
    private final boolean chains;
    private final boolean wide;
    private final StringBuilder out = new StringBuilder();
    private final List<String> terms = new ArrayList<>();
    private final List<Integer> unnamed = new ArrayList<>();
    private int cells;

    private Drawn(Random random, int steps) {
        this.random = random;
        this.steps = steps;
        this.wide = random.nextInt(5) > 1;
        this.signs = wide ? 5 + random.nextInt(15) : 1 + random.nextInt(3);
        this.chains = random.nextBoolean();
    }

    static String text(Random random, int most) {
        Drawn drawn = new Drawn(random, random.nextInt(most) + (random.nextInt(9) == 0 ? 0 : 1));
        drawn.tell();
        return drawn.out.toString();
    }

    private String term(int deep, boolean hole) {
        int kind = random.nextInt(deep > 0 ? 6 : 3);
        cells++;
        if (hole && kind == 0) {
            return "?" + (char) ('x' + random.nextInt(3));
        }
        if (kind <= 2) {
            return "a" + (char) ('a' + random.nextInt(signs));
        }
        if (kind <= 4) {
            return "f(" + term(deep - 1, hole) + ")";
        }
        return "g(" + term(deep - 1, hole) + "," + term(deep - 1, hole) + ")";
    }

    private String blank() {
        return random.nextInt(12) == 0 ? "\n " : " ";
    }

    private void tell() {
        int rules = (wide ? 2 : 1) + random.nextInt(4);
        int[] premises = new int[rules];
        String[][] patterns = new String[rules][];
        for (int k = 0; k < rules; k++) {
            premises[k] = k == 0 ? 0 : random.nextInt(wide ? 3 : 10) == 0 ? 3 : wide ? 1 + random.nextInt(2) : random.nextInt(3);
            patterns[k] = new String[premises[k] + 1];
            out.append("rule").append(blank()).append("r").append((char) ('a' + k));
            for (int j = 0; j < premises[k]; j++) {
                patterns[k][j] = term(1, true);
                out.append(j == 0 ? blank() : "," + blank()).append(patterns[k][j]);
            }
            patterns[k][premises[k]] = random.nextInt(3) == 0 ? "?x" : term(1, true);
            out.append(" gives ").append(patterns[k][premises[k]]).append(";").append(blank());
        }
        for (int k = 0; k < steps && cells < 380 && out.length() < 1400; k++) {
            step(rules, premises, patterns, k);
            if (random.nextInt(wide ? 200 : 14) == 0) {
                out.append("goal ").append(random.nextInt(terms.size())).append(";").append(blank());
            }
        }
        for (int k = random.nextInt(5); k > 0 && !terms.isEmpty(); k--) {
            int from = random.nextInt(terms.size());
            int to = from + random.nextInt(terms.size() - from);
            if (random.nextBoolean()) {
                from = random.nextInt(1 + from);
                to = terms.size() - 1;
            }
            out.append("reader u").append((char) ('a' + k)).append(" odds ").append(random.nextInt(101))
                    .append(" from ").append(from).append(" to ").append(to).append(";").append(blank());
        }
    }

    private void step(int rules, int[] premises, String[][] patterns, int number) {
        int rule = number == 0 ? 0 : random.nextInt(rules);
        if (wide && rules > 1 && rule == 0 && number > 0 && (number > 5 || number == steps - 1)) {
            rule = 1 + random.nextInt(rules - 1);
        }
        int[] names = new int[premises[rule]];
        for (int j = 0; j < names.length; j++) {
            names[j] = chains && random.nextInt(4) > 0 ? Math.max(0, number - 1 - j) : random.nextInt(number);
            if (wide && !unnamed.isEmpty() && random.nextInt(4) > 0) {
                names[j] = unnamed.get(random.nextInt(unnamed.size()));
            }
        }
        for (int name : names) {
            unnamed.remove((Integer) name);
        }
        unnamed.add(number);
        String told = random.nextInt(wide ? 10 : 3) == 0 && number > 0 ? terms.get(random.nextInt(number))
                : random.nextBoolean() ? term(1, random.nextInt(4) == 0)
                : filled(patterns[rule][names.length]);
        for (int k = 0; k < 20 && wide && terms.contains(told) && random.nextInt(12) > 0; k++) {
            told = term(1, false);
        }
        cells += 4;
        terms.add(told);
        out.append("step ").append(told).append(" by r").append((char) ('a' + rule));
        for (int name : names) {
            out.append(blank()).append(name);
        }
        out.append(";").append(blank());
    }

    private String filled(String pattern) {
        Map<Character, String> taken = new HashMap<>();
        StringBuilder filled = new StringBuilder();
        for (int k = 0; k < pattern.length(); k++) {
            if (pattern.charAt(k) == '?') {
                k++;
                filled.append(taken.computeIfAbsent(pattern.charAt(k), hole -> term(0, random.nextInt(5) == 0)));
            } else {
                filled.append(pattern.charAt(k));
            }
        }
        return filled.toString();
    }
}
