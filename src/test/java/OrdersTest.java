import java.util.ArrayList;
import java.util.Arrays;
import java.util.List;
import java.util.Random;

/** Proofs of which all STEPS are needed, drawn by a fixed seed: the best ORDER is the one that a table of all sets tells. */
public final class OrdersTest {
    public static void main(String[] args) {
        LongProof x = new LongProof();
        int unlike = 0;
        for (int k = 0; k < 600; k++) {
            Random random = new Random(k);
            int[][] names = drawn(random, 6 + k % 9);
            if (k % 50 == 0) {
                x = new LongProof();
            }
            String text = text(names);
            Told.due("proof() of " + text, Told.tell(x, text), names.length + 4);
            Told.due("rest of " + text, x.has(10), names.length);
            int[] best = best(names);
            for (int j = -1; j < names.length; j++) {
                Told.due(text + " order(" + j + ")", x.order(j), best[j + 1]);
                unlike += j >= 0 && best[j + 1] != j ? 1 : 0;
            }
            Told.due(text + " order at end", x.order(names.length), LongProof.NONE);
        }
        Told.due("orders unlike the numbers", unlike > 1000, true);
        Told.close();
    }

    /** Each STEP takes up some that nobody leans on yet, so that one is left at the end. */
    private static int[][] drawn(Random random, int count) {
        int[][] names = new int[count][];
        List<Integer> free = new ArrayList<>();
        for (int k = 0; k < count; k++) {
            int left = count - k - 1;
            int most = Math.min(3, free.size());
            int size = random.nextInt(3) == 0 ? random.nextInt(most + 1) : 0;
            while (size < most && free.size() - size + 1 > 2 * left + 1) {
                size++;
            }
            names[k] = new int[size];
            for (int j = 0; j < size; j++) {
                names[k][j] = free.remove(random.nextInt(free.size()));
            }
            if (size > 0 && size < 3 && random.nextInt(3) == 0) {
                names[k] = Arrays.copyOf(names[k], size + 1);
                names[k][size] = random.nextInt(k);
            }
            free.add(k);
        }
        return names;
    }

    private static String text(int[][] names) {
        StringBuilder text = new StringBuilder("rule r gives ?x;rule s ?x gives ?y;rule t ?x,?y gives ?z;"
                + "rule u ?x,?y,?z gives ?w;");
        for (int k = 0; k < names.length; k++) {
            text.append("step ").append((char) ('a' + k)).append(" by ").append((char) ('r' + names[k].length));
            for (int name : names[k]) {
                text.append(' ').append(name);
            }
            text.append(';');
        }
        return text.toString();
    }

    /** The least that is ever HELD, and the first ORDER: from the whole set back to the empty one. */
    private static int[] best(int[][] names) {
        int count = names.length;
        int all = (1 << count) - 1;
        int[] need = new int[1 << count];
        for (int told = all - 1; told >= 0; told--) {
            need[told] = 99;
            for (int k = 0; k < count; k++) {
                if (isNext(names, told, k)) {
                    int with = told | 1 << k;
                    need[told] = Math.min(need[told], Math.max(held(names, with), need[with]));
                }
            }
        }
        int[] best = new int[count + 1];
        best[0] = need[0];
        int told = 0;
        for (int at = 1; at <= count; at++) {
            int k = 0;
            while (!isNext(names, told, k)
                    || Math.max(held(names, told | 1 << k), need[told | 1 << k]) > best[0]) {
                k++;
            }
            best[at] = k;
            told |= 1 << k;
        }
        return best;
    }

    private static boolean isNext(int[][] names, int told, int k) {
        boolean is = (told >> k & 1) == 0;
        for (int name : names[k]) {
            is &= (told >> name & 1) != 0;
        }
        return is;
    }

    private static int held(int[][] names, int told) {
        int wanted = 1 << names.length - 1;
        for (int k = 0; k < names.length; k++) {
            for (int name : names[k]) {
                wanted |= (told >> k & 1) == 0 ? 1 << name : 0;
            }
        }
        return Integer.bitCount(wanted & told);
    }
}
