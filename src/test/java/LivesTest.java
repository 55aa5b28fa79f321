import java.nio.charset.StandardCharsets;
import java.util.Arrays;
import java.util.Random;

/**
 * Whole lives of objects, of 512 calls at most: texts with and without faults one behind the other, images of now,
 * of earlier and of none, blames, readers, seeds. What stays and what goes is kept beside in a plain model.
 */
public final class LivesTest {
    private static final int NONE = LongProof.NONE;
    private static final int MOST_CALLS = 512;

    private final Random random;
    private final LongProof x = new LongProof();
    private final StringBuilder story = new StringBuilder();
    private Oracle now = new Oracle("");
    private byte[] tape = new byte[0];
    private int[] fault = {0, NONE};
    private int[] image = {};
    private int calls;

    private LivesTest(int seed) {
        random = new Random(seed);
    }

    public static void main(String[] args) {
        for (int k = 0; k < 600 && Told.isAllRight(); k++) {
            new LivesTest(k).live();
        }
        Told.close();
    }

    private void live() {
        while (calls < MOST_CALLS - 110) {
            switch (random.nextInt(9)) {
                case 0 -> text();
                case 1 -> faultyText();
                case 2 -> turnOn();
                case 3 -> blame();
                case 4 -> ask();
                case 5 -> trials();
                case 6 -> takeImage();
                case 7 -> tapeAlone();
                default -> look();
            }
        }
        look();
        Told.due("calls of one life", calls <= MOST_CALLS, true);
    }

    private void due(String call, long got, long want) {
        calls++;
        story.append(call).append("; ");
        Told.due(story + "the last", got, want);
    }

    private void due(String call, boolean got, boolean want) {
        due(call, got ? 1 : 0, want ? 1 : 0);
    }

    private int below(int bound) {
        return random.nextInt(bound);
    }

    /** Bytes behind those on the tape, filled up to twenties with what end() cuts off again. */
    private void feed(byte[] bytes) {
        int due = tape.length + bytes.length;
        for (int k = 0; k < bytes.length; k += 20) {
            byte[] twenty = Arrays.copyOfRange(bytes, k, k + 20);
            int[] five = new int[5];
            for (int j = 0; j < 20; j++) {
                five[j / 4] = five[j / 4] << 8 | twenty[j] & 255;
            }
            int there = tape.length;
            boolean hasRoom = there + 20 <= 1600;
            due("feed", x.feed(five[0], five[1], five[2], five[3], five[4]), hasRoom ? there + 20 : NONE);
            if (hasRoom) {
                tape = Arrays.copyOf(tape, there + 20);
                System.arraycopy(twenty, 0, tape, there, 20);
            }
        }
        end(due);
    }

    private void end(int n) {
        boolean is = n >= 0 && n <= tape.length;
        due("end(" + n + ")", x.end(n), is);
        tape = is ? Arrays.copyOf(tape, n) : tape;
    }

    private void feedText(String text) {
        end(0);
        feed(text.getBytes(StandardCharsets.ISO_8859_1));
    }

    private String drawn() {
        String text = Drawn.text(random, 9);
        while (text.length() > 700) {
            text = Drawn.text(random, 9);
        }
        return text;
    }

    private void text() {
        String text = drawn();
        long seed = now.seed;
        feedText(text);
        now = new Oracle(text);
        now.seed = seed;
        due("proof() of " + text, x.proof(), now.statements);
        fault = new int[] {0, NONE};
        tape = new byte[0];
        look();
    }

    /** All stays but the tape: what is looked at then is still of the proof ahead of it. */
    private void faultyText() {
        String[][] ends = {{"1", "", "%;"}, {"1", "goal ", ";"}, {"2", "goal ", "9999;"}, {"1", "goal 0000", "0;"},
            {"3", "step f(aa) by ", "nobody;"}, {"1", "rule ", "gives;"}, {"1", "rule abcdef", "g gives aa;"},
            {"3", "rule ", "ra gives aa;"}, {"1", "reader z ", ""}, {"4", "rule z gives f(f(f(f(f(f(f", "(aa)))))));"}};
        String[] end = ends[below(ends.length)];
        String text = drawn();
        feedText(text + end[1] + end[2]);
        due("proof() of " + text + end[1] + end[2], x.proof(), NONE);
        fault = new int[] {Integer.parseInt(end[0]), (text + end[1]).length()};
        tape = new byte[0];
        look();
    }

    private void blame() {
        int rule = below(now.rules.size() + 2) - 1;
        boolean is = below(3) > 0;
        boolean there = rule >= 0 && rule < now.rules.size();
        if (there && is) {
            now.wrong.add(rule);
        } else if (there) {
            now.wrong.remove(rule);
        }
        due("blame(" + rule + ", " + is + ")", x.blame(rule, is), there ? now.countFallen(now.wrong) : NONE);
    }

    private void ask() {
        int reader = below(now.readers.size() + 2) - 1;
        boolean is = below(3) > 0;
        boolean there = reader >= 0 && reader < now.readers.size();
        if (there && is) {
            now.asked.add(reader);
        } else if (there) {
            now.asked.remove(reader);
        }
        due("ask(" + reader + ", " + is + ")", x.ask(reader, is), there ? now.asked.size() : NONE);
    }

    private void trials() {
        if (below(4) == 0) {
            int seed = random.nextInt();
            due("seed(" + seed + ")", x.seed(seed), seed >= 0);
            now.seed = seed >= 0 ? seed : now.seed;
        }
        int step = below(now.steps.size() + 2) - 1;
        int n = below(5) == 0 ? 1000 + below(2) : below(40);
        boolean is = now.hasStep(step) && n >= 1 && n <= 1000;
        due("trials(" + step + ", " + n + ")", x.trials(step, n), is ? now.trials(step, n) : NONE);
    }

    private void takeImage() {
        due("image()", x.image(), 4);
        image = now.image();
    }

    /** An image of now or of earlier, with a byte changed, one too few or too many, or of bits drawn. */
    private void turnOn() {
        int[] from = below(2) == 0 && image.length > 0 ? image : now.image();
        byte[] bytes = new byte[4];
        for (int k = 0; k < 4; k++) {
            bytes[k] = (byte) from[k];
        }
        switch (below(6)) {
            case 0 -> bytes[below(4)] ^= (byte) (1 << below(8));
            case 1 -> bytes = Arrays.copyOf(bytes, below(2) == 0 ? 3 : 5);
            case 2, 3 -> sign(bytes, below(1 << now.rules.size() + 1), below(1 << now.readers.size() + 1));
            default -> { }
        }
        end(0);
        feed(bytes);
        boolean is = isImage();
        due("on() of " + Arrays.toString(tape), x.on(), is);
        if (is) {
            take(now.wrong, (tape[0] & 255) << 8 | tape[1] & 255);
            take(now.asked, tape[2]);
        }
        tape = new byte[0];
        look();
    }

    private static void sign(byte[] bytes, int rules, int readers) {
        bytes[0] = (byte) (rules >> 8);
        bytes[1] = (byte) rules;
        bytes[2] = (byte) readers;
        bytes[3] = (byte) sum(bytes);
    }

    private static int sum(byte[] bytes) {
        int c = 61;
        for (int k = 0; k < 3; k++) {
            c = (7 * c + (bytes[k] & 255)) % 247;
        }
        return c;
    }

    private boolean isImage() {
        return tape.length == 4 && (tape[3] & 255) == sum(tape)
                && ((tape[0] & 255) << 8 | tape[1] & 255) < 1 << now.rules.size()
                && (tape[2] & 255) < 1 << now.readers.size();
    }

    private static void take(java.util.Set<Integer> into, int bits) {
        into.clear();
        for (int k = 0; k < 16; k++) {
            if ((bits >> k & 1) != 0) {
                into.add(k);
            }
        }
    }

    /** The tape by itself: what is fed, cut and refused changes nothing else. */
    private void tapeAlone() {
        feed(new byte[below(45)]);
        end(tape.length + 1);
        end(-1 - below(3));
        end(below(tape.length + 1));
    }

    private void look() {
        boolean hasSteps = !now.steps.isEmpty();
        due("fault(0)", x.fault(0), fault[0]);
        due("fault(1)", x.fault(1), fault[1]);
        due("has(1)", x.has(1), now.steps.size());
        due("has(11)", x.has(11), now.wrong.size());
        due("has(12)", x.has(12), now.countFallen(now.wrong));
        due("has(13)", x.has(13), now.asked.size());
        due("stands()", x.stands(), now.stands());
        long fewest = now.fewest();
        due("fewest(-1)", x.fewest(NONE), fewest == 0L ? NONE : Long.bitCount(fewest));
        due("fewest(0)", x.fewest(0), fewest == 0L ? NONE : Long.numberOfTrailingZeros(fewest));
        due("least(0)", x.least(0), hasSteps ? now.least(now.asked)[0] : NONE);
        due("least(1)", x.least(1), hasSteps ? now.least(now.asked)[1] : NONE);
        due("whom()", x.whom(), now.whom());
        due("lemma(2)", x.lemma(2), now.lemma(2));
        due("held()", x.held(), now.heldAsNumbered());
        int step = below(now.steps.size() + 1);
        boolean is = now.hasStep(step);
        due("step(" + step + ", 7)", x.step(step, 7), is ? now.isFallen(step, now.wrong) ? 1 : 0 : NONE);
        due("step(" + step + ", 10)", x.step(step, 10), is ? now.seen(step, now.asked) : NONE);
        int k = below(6) - 1;
        due("octet(" + k + ")", x.octet(k), k >= 0 && k < image.length ? image[k] : NONE);
    }
}
