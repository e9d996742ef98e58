import java.nio.charset.StandardCharsets;

/** Counts answers that are due, and feeds texts. */
final class Check {
    private static int right = 0;
    private static int wrong = 0;

    private Check() {
    }

    static void due(String call, long want, long got) {
        if (got == want) {
            right++;
            return;
        }
        wrong++;
        System.out.println(call + " answered " + got + ", due is " + want);
    }

    static void isTrue(String what, boolean holds) {
        due(what, 1, holds ? 1 : 0);
    }

    /** A new object with these texts made gardens, one after the other, each without a fault. */
    static InTheGarden garden(String... texts) {
        InTheGarden x = new InTheGarden();
        for (String text : texts) {
            int statements = tell(x, text);
            isTrue("garden \"" + text + "\" stands (" + statements + ")", statements > 0);
        }
        return x;
    }

    static void feed(InTheGarden x, String text) {
        byte[] bytes = text.getBytes(StandardCharsets.ISO_8859_1);
        for (int from = 0; from < bytes.length; from += 8) {
            int n = Math.min(8, bytes.length - from);
            x.feed(n, pack(bytes, from, n));
        }
    }

    static int tell(InTheGarden x, String text) {
        feed(x, text);
        return x.garden();
    }

    static long pack(byte[] bytes, int from, int n) {
        long packed = 0;
        for (int i = 0; i < n; i++) {
            packed |= (bytes[from + i] & 255L) << (8 * i);
        }
        return packed;
    }

    static void end(String test) {
        System.out.println(test + ": " + right + " passed, " + wrong + " failed");
        if (wrong != 0) {
            System.exit(1);
        }
    }
}
