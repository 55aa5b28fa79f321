import java.nio.charset.StandardCharsets;

/** What the tests share: feeding a text, and counting answers that are not the due ones. */
final class Told {
    private static int calls = 0;
    private static int wrong = 0;

    private Told() {
    }

    static void due(String call, long got, long want) {
        calls++;
        if (got != want) {
            wrong++;
            if (wrong <= 40) {
                int cut = Math.max(0, call.length() - 300);
                System.out.println(call.substring(cut) + " answered " + got + ", due is " + want);
            }
        }
    }

    static void due(String call, boolean got, boolean want) {
        due(call, got ? 1 : 0, want ? 1 : 0);
    }

    /** Ends the test: exit code 1 if an answer was wrong. */
    static void close() {
        System.out.println(calls + " answers, " + wrong + " not as due");
        if (wrong != 0 || calls == 0) {
            System.exit(1);
        }
    }

    static boolean isAllRight() {
        return wrong == 0;
    }

    static void feedBytes(LongProof x, byte[] bytes) {
        x.end(0);
        for (int k = 0; k < bytes.length; k += 20) {
            int[] five = new int[5];
            for (int j = 0; j < 20; j++) {
                int octet = k + j < bytes.length ? bytes[k + j] & 255 : ' ';
                five[j / 4] = five[j / 4] << 8 | octet;
            }
            if (x.feed(five[0], five[1], five[2], five[3], five[4]) == LongProof.NONE) {
                throw new IllegalStateException("a text of more than 1600 bytes");
            }
        }
        if (!x.end(bytes.length)) {
            throw new IllegalStateException("the tape is too short");
        }
    }

    static void feedText(LongProof x, String text) {
        feedBytes(x, text.getBytes(StandardCharsets.ISO_8859_1));
    }

    static int tell(LongProof x, String text) {
        feedText(x, text);
        return x.proof();
    }

    /** A new object with a text that must have no fault. */
    static LongProof of(String text) {
        LongProof x = new LongProof();
        int statements = tell(x, text);
        due("proof() of " + text + ", fault " + x.fault(0) + " at " + x.fault(1),
                statements == LongProof.NONE, false);
        return x;
    }
}
