import java.lang.reflect.Method;
import java.lang.reflect.Modifier;
import java.util.ArrayList;
import java.util.Comparator;
import java.util.List;
import java.util.Random;

/**
 * Any calls with any arguments: none throws, two objects answer alike, and what is refused answers NONE.
 * Also the longest searches that there can be, which must end soon.
 */
public final class RobustTest {
    private static final int[] EDGES = {Integer.MIN_VALUE, -2147483647, -1000, -2, -1, 0, 1, 2, 7, 8, 9, 12, 14, 20, 39,
        40, 41, 100, 200, 255, 1000, 1001, 1600, 0x20202020, Integer.MAX_VALUE - 1, Integer.MAX_VALUE};

    public static void main(String[] args) throws Exception {
        List<Method> calls = calls();
        for (int k = 0; k < 1500 && Told.isAllRight(); k++) {
            one(calls, new Random(k));
        }
        longSearches();
        Told.close();
    }

    private static List<Method> calls() {
        List<Method> calls = new ArrayList<>();
        for (Method method : LongProof.class.getDeclaredMethods()) {
            if (Modifier.isPublic(method.getModifiers())) {
                calls.add(method);
            }
        }
        calls.sort(Comparator.comparing(Method::getName));
        Told.due("public methods", calls.size(), 39);
        return calls;
    }

    private static void one(List<Method> calls, Random random) throws Exception {
        LongProof x = new LongProof();
        LongProof y = new LongProof();
        for (int k = 0; k < 300; k++) {
            if (random.nextInt(60) == 0 || k == 10) {
                String text = Drawn.text(random, 1 + random.nextInt(40));
                if (random.nextInt(4) == 0) {
                    text = text.substring(0, random.nextInt(text.length() + 1)) + (char) random.nextInt(256);
                }
                if (text.length() <= 1600) {
                    Told.feedText(x, text);
                    Told.feedText(y, text);
                }
                Told.due("proof()", x.proof(), y.proof());
            }
            Method call = calls.get(random.nextInt(calls.size()));
            Object[] with = new Object[call.getParameterCount()];
            for (int j = 0; j < with.length; j++) {
                with[j] = call.getParameterTypes()[j] == boolean.class ? (Object) random.nextBoolean() : number(random);
            }
            String told = call.getName() + java.util.Arrays.toString(with);
            try {
                Told.due(told + " twice the same", call.invoke(x, with).equals(call.invoke(y, with)), true);
            } catch (java.lang.reflect.InvocationTargetException thrown) {
                Told.due(told + " threw " + thrown.getCause(), 1, 0);
            }
        }
    }

    private static Integer number(Random random) {
        return switch (random.nextInt(4)) {
            case 0 -> EDGES[random.nextInt(EDGES.length)];
            case 1 -> random.nextInt();
            default -> random.nextInt(12);
        };
    }

    /** 4096 ways, anew behind each blame; 14 STEPS with many orders; 40 STEPS all alike. */
    private static void longSearches() {
        StringBuilder text = new StringBuilder("rule o gives ?x;rule w gives ?x;rule k ?x,?y,?z gives ?w;");
        for (int k = 0; k < 24; k++) {
            text.append("step ").append((char) ('a' + k / 2)).append(" by o;");
        }
        text.append("step u by k 0 2 4;step v by k 6 8 10;step w by k 12 14 16;step x by k 18 20 22;step y by k 24 25 26;"
                + "step z by k 27 28 0;");
        LongProof x = Told.of(text.toString());
        for (int k = 0; k < 200; k++) {
            x.blame(1, k % 2 == 0);
            Told.due("fewest", x.fewest(LongProof.NONE), 18);
        }
        LongProof y = Told.of("rule o gives ?x;rule k ?x,?y,?z gives ?w;step a by o;step b by o;step c by o;step d by o;"
                + "step e by o;step f by o;step g by o;step h by o;step i by o;step j by k 0 3 6;step k by k 1 4 7;"
                + "step l by k 2 5 8;step m by k 9 10 11;step n by k 12 12 0;");
        for (int k = 0; k < 500; k++) {
            Told.due("order", y.order(13), 13);
        }
        StringBuilder same = new StringBuilder("rule o gives a;");
        for (int k = 0; k < 40; k++) {
            same.append("step a by o;");
        }
        LongProof z = Told.of(same.toString());
        for (int k = 0; k < 500; k++) {
            Told.due("lemma", z.lemma(2), 27);
            Told.due("trials", z.trials(39, 1000), 0);
        }
    }
}
