import java.nio.charset.StandardCharsets;

/** What all tests share: counting wrong answers, and texts put on the tape. */
final class Checks {
    static final String BIG = "bobbin lasts 10 odds 50 lasts 20 odds 50; seam hem takes 6 shown; seam cuff takes 5; "
            + "seam lap takes 12 shown anew 4 8; rule big when used+takes>12; rule never when not all; "
            + "wind 2; mend 9; look 1; batch 5; ahead 3; girls 2; ";

    private static int asked = 0;
    private static int wrong = 0;
    private static String about = "";

    private Checks() {
    }

    static void due(String what, long got, long want) {
        asked++;
        if (got != want) {
            wrong++;
            if (wrong <= 40) {
                System.out.println(about + what + " answered " + got + ", due is " + want);
            }
        }
    }

    static void due(String what, boolean got, boolean want) {
        due(what, got ? 1 : 0, want ? 1 : 0);
    }

    static int wrong() {
        return wrong;
    }

    static int asked() {
        return asked;
    }

    /** What the answers from here on are asked for. */
    static void about(String sentence) {
        about = sentence.isEmpty() ? "" : sentence + ": ";
    }

    /** Puts bytes alone on the tape. */
    static void tape(BelowThread x, int... bytes) {
        x.end(0);
        for (int from = 0; from < bytes.length; from += 20) {
            int[] n = new int[5];
            for (int k = 0; k < 20; k++) {
                n[k / 4] = n[k / 4] << 8 | (from + k < bytes.length ? bytes[from + k] & 255 : 32);
            }
            x.feed(n[0], n[1], n[2], n[3], n[4]);
        }
        x.end(bytes.length);
    }

    static void tape(BelowThread x, String text) {
        byte[] bytes = text.getBytes(StandardCharsets.ISO_8859_1);
        int[] numbers = new int[bytes.length];
        for (int k = 0; k < bytes.length; k++) {
            numbers[k] = bytes[k] & 255;
        }
        tape(x, numbers);
    }

    static int room(BelowThread x, String text) {
        tape(x, text);
        return x.room();
    }

    /** A new object in a room that must be a good one. */
    static BelowThread in(String text) {
        BelowThread x = new BelowThread();
        int statements = room(x, text);
        if (statements < 0) {
            due("room of '" + text + "' fault " + x.fault(0) + " at " + x.fault(1), statements, 1);
        }
        return x;
    }

    static long ask(BelowThread x, int sewer, int length, String question) {
        tape(x, question);
        return x.ask(sewer, length);
    }

    /** A text, told as a room to a new object, has this fault at this place. */
    static void fault(String text, int fault, int place) {
        BelowThread x = new BelowThread();
        int answer = room(x, text);
        due("room '" + text + "' fault", x.fault(0), fault);
        due("room '" + text + "' place", x.fault(1), place);
        due("room '" + text + "' refused", x.status(1), fault == 0 ? 0 : 1);
        due("room '" + text + "'", answer < 0, fault != 0);
    }

    /** The fault stands at the mark |, which is no part of the text. */
    static void faultAt(int fault, String marked) {
        int place = marked.indexOf('|');
        fault(marked.substring(0, place) + marked.substring(place + 1), fault, place);
    }

    static void good(String text) {
        fault(text, 0, BelowThread.NONE);
    }

    /** A question in the room BIG; without a mark it is a good one. */
    static void askFault(int fault, String marked) {
        int place = marked.indexOf('|');
        String text = place < 0 ? marked : marked.substring(0, place) + marked.substring(place + 1);
        BelowThread x = in(BIG);
        long answer = ask(x, 0, 20, text);
        due("ask '" + text + "' fault", x.fault(0), fault);
        due("ask '" + text + "' place", x.fault(1), place);
        due("ask '" + text + "' NOTHING", answer == BelowThread.NOTHING, fault != 0);
        due("ask counts as no refusal", x.status(1), 0);
    }

    /** An image with the last byte that is due. */
    static int[] image(int sewn, int used, int lasts, int changes, int mended, int cost) {
        int[] bytes = {sewn, used, lasts, changes, mended, cost / 256, cost % 256, 199};
        for (int k = 0; k < 7; k++) {
            bytes[7] = (3 * bytes[7] + bytes[k]) % 251;
        }
        return bytes;
    }

    static int[] imageOf(BelowThread x) {
        int[] bytes = new int[x.image()];
        for (int k = 0; k < bytes.length; k++) {
            bytes[k] = x.octet(k);
        }
        return bytes;
    }

    static void end(String name) {
        System.out.println(name + ": " + asked + " answers, " + wrong + " not as due");
        if (wrong != 0) {
            System.exit(1);
        }
    }
}
