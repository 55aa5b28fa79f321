import java.util.ArrayList;
import java.util.HashMap;
import java.util.List;
import java.util.Map;
import java.util.Random;
import java.util.Set;

/** Texts with bytes, words and pieces changed: the fault is the one that a second, plain reader finds. */
public final class TextsTest {
    private static final Set<String> OWN =
            Set.of("rule", "gives", "step", "by", "goal", "reader", "odds", "from", "to");
    private static final String[] PIECES = {"rule", "gives", "step", "by", "goal", "reader", "odds", "from", "to",
        "ra", "f", "(", ")", ",", ";", "?", "?x", "f(", "0", "1", "39", "100", "101", "00001", "abcdefg", "abcdef",
        " ", "\n", "\t", "%", "A", "g(ab,ac)", "f(f(f(f(f(f(f(", "goal 0;", "rule q gives zz;", "step ab by ra;", "x0"};

    private static final class Fault extends RuntimeException {
        private static final long serialVersionUID = 1L;
        final int kind;
        final int place;

        Fault(int kind, int place) {
            this.kind = kind;
            this.place = place;
        }
    }

    /** Reads byte by byte and keeps nothing but what faults hang on. */
    private static final class Reading {
        final String text;
        int at = 0;
        final List<Integer> premises = new ArrayList<>();
        final List<String> rules = new ArrayList<>();
        final List<String> readers = new ArrayList<>();
        final Map<String, Integer> signs = new HashMap<>();
        final List<String> holes = new ArrayList<>();
        int steps = 0;
        int inTerm = 0;
        int inAll = 0;

        Reading(String text) {
            this.text = text;
        }

        int all() {
            int told = 0;
            for (skip(); at < text.length(); skip()) {
                if (told == 80) {
                    throw new Fault(5, at);
                }
                statement();
                told++;
            }
            return told;
        }

        char now() {
            return at < text.length() ? text.charAt(at) : 0xffff;
        }

        void skip() {
            while (now() == ' ' || now() == '\n') {
                at++;
            }
        }

        static boolean letter(char c) {
            return c >= 'a' && c <= 'z';
        }

        static boolean digit(char c) {
            return c >= '0' && c <= '9';
        }

        String peek() {
            int end = at;
            while (end < text.length() && letter(text.charAt(end))) {
                end++;
            }
            return text.substring(at, end);
        }

        void keyword(String word) {
            boolean glued = at > 0 && digit(text.charAt(at - 1));
            skip();
            if (glued && letter(now()) && digit(text.charAt(at - 1)) || !peek().equals(word)) {
                throw new Fault(1, at);
            }
            at += word.length();
        }

        void mark(char c) {
            skip();
            if (now() != c) {
                throw new Fault(1, at);
            }
            at++;
        }

        String name() {
            skip();
            String word = peek();
            if (word.isEmpty() || OWN.contains(word)) {
                throw new Fault(1, at);
            }
            if (word.length() > 6) {
                throw new Fault(1, at + 6);
            }
            at += word.length();
            return word;
        }

        int number(int low, int high) {
            int before = at;
            skip();
            if (!digit(now()) || at == before && letter(text.charAt(at - 1))) {
                throw new Fault(1, at);
            }
            int start = at;
            while (digit(now())) {
                if (at == start + 4) {
                    throw new Fault(1, at);
                }
                at++;
            }
            int number = Integer.parseInt(text.substring(start, at));
            if (number < low || number > high) {
                throw new Fault(2, start);
            }
            return number;
        }

        void statement() {
            int start = at;
            String word = peek();
            at += word.length();
            switch (word) {
                case "rule" -> rule(start);
                case "step" -> step(start);
                case "goal" -> number(0, steps - 1);
                case "reader" -> reader(start);
                default -> throw new Fault(1, start);
            }
            mark(';');
        }

        void newName(List<String> kind) {
            skip();
            int where = at;
            String name = name();
            if (rules.contains(name) || readers.contains(name)) {
                throw new Fault(3, where);
            }
            kind.add(name);
        }

        void rule(int start) {
            if (rules.size() == 12) {
                throw new Fault(5, start);
            }
            newName(rules);
            int count = 0;
            skip();
            if (!peek().equals("gives")) {
                wholeTerm();
                count++;
                skip();
                while (count < 3 && now() == ',') {
                    at++;
                    wholeTerm();
                    count++;
                    skip();
                }
            }
            keyword("gives");
            wholeTerm();
            premises.add(count);
        }

        void step(int start) {
            if (steps == 40) {
                throw new Fault(5, start);
            }
            wholeTerm();
            keyword("by");
            skip();
            int where = at;
            int rule = rules.indexOf(name());
            if (rule < 0) {
                throw new Fault(3, where);
            }
            for (int k = 0; k < premises.get(rule); k++) {
                number(0, steps - 1);
            }
            steps++;
        }

        void reader(int start) {
            if (readers.size() == 6) {
                throw new Fault(5, start);
            }
            newName(readers);
            keyword("odds");
            number(0, 100);
            keyword("from");
            int from = number(0, steps - 1);
            keyword("to");
            number(from, steps - 1);
        }

        void wholeTerm() {
            inTerm = 0;
            term(0);
        }

        void term(int open) {
            skip();
            boolean hole = now() == '?';
            if (hole) {
                at++;
                skip();
            }
            int where = at;
            String name = name();
            inTerm++;
            inAll++;
            if (inTerm > 24 || inAll > 400) {
                throw new Fault(5, where);
            }
            if (hole) {
                if (!holes.contains(name)) {
                    holes.add(name);
                }
                if (holes.size() > 12) {
                    throw new Fault(5, where);
                }
                return;
            }
            if (!signs.containsKey(name) && signs.size() == 24) {
                throw new Fault(5, where);
            }
            signs.putIfAbsent(name, -1);
            int parts = parts(open);
            if (signs.get(name) != -1 && signs.get(name) != parts) {
                throw new Fault(3, where);
            }
            signs.put(name, parts);
        }

        int parts(int open) {
            int before = at;
            skip();
            if (now() != '(') {
                at = before;
                return 0;
            }
            if (open == 6) {
                throw new Fault(4, at);
            }
            at++;
            term(open + 1);
            int parts = 1;
            skip();
            while (now() == ',' && parts < 3) {
                at++;
                term(open + 1);
                parts++;
                skip();
            }
            mark(')');
            return parts;
        }
    }

    public static void main(String[] args) {
        LongProof x = new LongProof();
        int[] kinds = new int[6];
        int pieces = 0;
        for (int k = 0; k < 120000; k++) {
            Random random = new Random(k);
            String text = changed(Drawn.text(random, 3 + random.nextInt(15)), random);
            if (text.length() > 1600) {
                continue;
            }
            if (pieces++ % 100 == 0) {
                x = new LongProof();
            }
            int kind = 0;
            int place = LongProof.NONE;
            int told = LongProof.NONE;
            try {
                told = new Reading(text).all();
            } catch (Fault fault) {
                kind = fault.kind;
                place = fault.place;
            }
            kinds[kind]++;
            Told.due("proof() of " + text, Told.tell(x, text), told);
            Told.due("fault(0) of " + text, x.fault(0), kind);
            Told.due("fault(1) of " + text, x.fault(1), place);
        }
        for (int kind = 0; kind < kinds.length; kind++) {
            Told.due("fault " + kind + " was drawn", kinds[kind] > 100, true);
        }
        Told.close();
    }

    private static String changed(String text, Random random) {
        StringBuilder out = new StringBuilder(text);
        for (int k = random.nextInt(3); k >= 0; k--) {
            int at = random.nextInt(out.length() + 1);
            int end = Math.min(out.length(), at + random.nextInt(4));
            String piece = PIECES[random.nextInt(PIECES.length)];
            switch (random.nextInt(8)) {
                case 0 -> out.delete(at, end);
                case 1 -> out.replace(at, end, piece);
                case 2 -> out.insert(at, piece);
                case 3 -> out.setLength(at);
                case 4 -> out.append(out.substring(at));
                case 5 -> out.append(piece);
                case 6 -> out.insert(at, names(random, random.nextBoolean() ? "?" : ""));
                default -> out.insert(Math.max(0, out.lastIndexOf(";") + 1), repeated(random));
            }
        }
        return out.toString();
    }

    private static String repeated(Random random) {
        String[] many = {"goal 0;", "step ab by ra;", "rule q%s gives ab;", "reader q%s odds 5 from 0 to 0;",
            "step h(ab,h(ab,ab)) by ra;"};
        String one = many[random.nextInt(many.length)];
        StringBuilder out = new StringBuilder();
        int count = random.nextInt(90);
        for (int k = 0; k < count && out.length() < 900; k++) {
            out.append(one.replace("%s", "" + (char) ('a' + k / 26) + (char) ('a' + k % 26)));
        }
        return out.toString();
    }

    private static String names(Random random, String hole) {
        StringBuilder out = new StringBuilder();
        int count = random.nextInt(16);
        for (int k = 0; k < count; k++) {
            out.append("rule z").append((char) ('a' + k)).append(" gives h(").append(hole).append("n")
                    .append((char) ('a' + 2 * k % 26)).append(",").append(hole).append("n")
                    .append((char) ('a' + (2 * k + 1) % 26)).append(");");
        }
        return out.toString();
    }
}
