import java.nio.charset.StandardCharsets;

/** What all tests share: counting wrong answers, and texts put on the tape. */
final class Checks {
    static final String BIG = "bobbin lasts 10 odds 50 lasts 20 odds 50; seam hem takes 6 shown; seam cuff takes 5; "
            + "seam lap takes 12 shown anew 4 8; rule big when used+takes>12; rule never when not all; "
            + "wind 2; mend 9; look 1; batch 5; ahead 3; girls 2; ";

    private static int asked = 0;
    private static int wrong = 0;

    private Checks() {
    }

    static void due(String what, long got, long want) {
        asked++;
        if (got != want) {
            wrong++;
            if (wrong <= 40) {
                System.out.println(what + " answered " + got + ", due is " + want);
            }
        }
    }

    static void due(String what, boolean got, boolean want) {
        due(what, got ? 1 : 0, want ? 1 : 0);
    }

    static int wrong() {
        return wrong;
    }

    /** Puts bytes alone on the tape. */
    static void tape(BelowThread x, int... bytes) {
        x.end(0);
        for (int from = 0; from < bytes.length; from += 20) {
            int[] n = new int[5];
            for (int k = 0; k < 20; k++) {
                n[k / 4] = n[k / 4] << 8 | (from + k < bytes.length ? bytes[from + k] & 255 : 32);
            }
            x.feed(n[0], n[1], n[2], n[3], n[4]);
        }
        x.end(bytes.length);
    }

    static void tape(BelowThread x, String text) {
        byte[] bytes = text.getBytes(StandardCharsets.ISO_8859_1);
        int[] numbers = new int[bytes.length];
        for (int k = 0; k < bytes.length; k++) {
            numbers[k] = bytes[k] & 255;
        }
        tape(x, numbers);
    }

    static int room(BelowThread x, String text) {
        tape(x, text);
        return x.room();
    }

    /** A new object in a room that must be a good one. */
    static BelowThread in(String text) {
        BelowThread x = new BelowThread();
        int statements = room(x, text);
        if (statements < 0) {
            due("room of '" + text + "' fault " + x.fault(0) + " at " + x.fault(1), statements, 1);
        }
        return x;
    }

    static long ask(BelowThread x, int sewer, int length, String question) {
        tape(x, question);
        return x.ask(sewer, length);
    }

    static int[] imageOf(BelowThread x) {
        int[] bytes = new int[x.image()];
        for (int k = 0; k < bytes.length; k++) {
            bytes[k] = x.octet(k);
        }
        return bytes;
    }

    static void end(String name) {
        System.out.println(name + ": " + asked + " answers, " + wrong + " not as due");
        if (wrong != 0) {
            System.exit(1);
        }
    }
}
