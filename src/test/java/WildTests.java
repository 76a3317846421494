import java.lang.management.ManagementFactory;
import java.util.ArrayList;
import java.util.List;
import java.util.Random;

/** Calls with any arguments in any state: none throws, like calls answer alike, and nothing is made by a call. */
final class WildTests {
    private static final int[] ODD = {Integer.MIN_VALUE, -1000, -2, -1, 0, 1, 2, 3, 4, 5, 6, 7, 8, 9, 10, 11, 12, 13,
        19, 20, 40, 98, 99, 100, 101, 255, 256, 1600, Integer.MAX_VALUE};

    public static void main(String[] args) {
        for (int seed = 0; seed < 1500; seed++) {
            List<Long> once = run(seed);
            List<Long> again = run(seed);
            Checks.due("run " + seed + " alike", once.equals(again), true);
        }
        room();
        Checks.end("WildTests");
    }

    private static int odd(Random random) {
        int what = random.nextInt(10);
        if (what == 0) {
            return random.nextInt();
        }
        return what < 6 ? random.nextInt(14) : ODD[random.nextInt(ODD.length)];
    }

    private static List<Long> run(int seed) {
        Random random = new Random(seed);
        BelowThread x = new BelowThread();
        List<Long> answers = new ArrayList<>();
        Model model = new Model(seed, random.nextInt(11));
        try {
            for (int n = 0; n < 120; n++) {
                answers.add(n % 40 == 0 ? text(x, random, model.text) : call(x, random, model));
            }
        } catch (RuntimeException | Error e) {
            Checks.due("run " + seed + " threw " + e, 1, 0);
        }
        return answers;
    }

    /** A room's text as it is, or with some bytes amiss, or cut. */
    private static long text(BelowThread x, Random random, String text) {
        StringBuilder out = new StringBuilder(text);
        if (out.length() > 1600) {
            out.setLength(1600);
        }
        for (int n = random.nextInt(4); n > 0 && out.length() > 1; n--) {
            int at = random.nextInt(out.length());
            switch (random.nextInt(4)) {
                case 0: out.deleteCharAt(at); break;
                case 1: out.setCharAt(at, (char) random.nextInt(256)); break;
                case 2: out.setCharAt(at, out.charAt(random.nextInt(out.length()))); break;
                default: out.setLength(at); break;
            }
        }
        long answer = Checks.room(x, out.toString());
        boolean refused = x.fault(0) != 0;
        Checks.due("a fault is told with NONE", answer == -1, refused);
        Checks.due("a fault's kind", x.fault(0) >= 0 && x.fault(0) <= 5, true);
        Checks.due("a fault's place", x.fault(1) >= (refused ? 0 : -1) && x.fault(1) <= (refused ? out.length() : -1), true);
        return answer * 100000 + x.fault(0) * 10000 + x.fault(1);
    }

    private static long call(BelowThread x, Random random, Model model) {
        int a = odd(random), b = odd(random), c = odd(random), d = odd(random), e = odd(random);
        switch (random.nextInt(36)) {
            case 0: return x.feed(a, b, c, d, e);
            case 1: return x.end(a) ? 1 : 0;
            case 2: return x.room();
            case 3: return x.fault(a);
            case 4: return x.has(a);
            case 5: return x.letter(a, b, c);
            case 6: return x.bobbin(a, b);
            case 7: return x.seam(a, b);
            case 8: return x.row(a, b, c, d);
            case 9: return x.judge(a, b, c);
            case 10: return x.mean(a);
            case 11: return x.when(a, b);
            case 12: return x.looks(a);
            case 13: return x.rule();
            case 14: return x.fewest(a, b);
            case 15: return x.free(a, b);
            case 16: return x.hidden(a, b);
            case 17: return x.several(a, b);
            case 18: return x.wound(a);
            case 19: return x.day(a);
            case 20:
            case 21: return x.sew(a > 3);
            case 22: return x.glance();
            case 23: return x.sews(a);
            case 24: return x.anew();
            case 25: return x.undo() ? 1 : 0;
            case 26: return x.seed(a) ? 1 : 0;
            case 27:
                Checks.tape(x, a & 7, b & 1, c & 7, d & 1);
                return x.see();
            case 28: return x.fits(a);
            case 29: return question(x, random, model, a, b);
            case 30: return x.image();
            case 31: return x.octet(a);
            case 32:
                int[] bytes = Checks.imageOf(x);
                bytes[random.nextInt(8)] += random.nextInt(2);
                Checks.tape(x, bytes);
                return x.on() ? 1 : 0;
            case 33: return x.status(a);
            case 34: return x.ask(a, b);
            default: return x.on() ? 1 : 0;
        }
    }

    private static long question(BelowThread x, Random random, Model model, int sewer, int length) {
        String[] parts = {"takes", "used", "left", "number", "shown", "changed", "mended", "rest"};
        String word = "first last often total most least seam".split(" ")[random.nextInt(7)];
        Model.Piece piece = random.nextBoolean() ? model.test(random.nextInt(6), parts, true) : model.sum(3, parts, true);
        String text = word + " " + piece.text();
        return Checks.ask(x, sewer, length, text.substring(0, Math.min(1600, text.length())));
    }

    /** The longest runs of the dearest calls make no objects, and come to an end soon. */
    private static void room() {
        String text = "bobbin lasts 99 odds 20 lasts 60 odds 20 lasts 61 odds 20 lasts 62 odds 20 lasts 63 odds 20;girls 3;"
            + "seam a takes 29 anew 1 2 3 4;seam b takes 28 anew 1 2 3 4;seam c takes 31 anew 1 2 3 4;seam d takes 25 anew 1 2 3 4;"
            + "seam e takes 37 shown anew 1 2 3 4;seam f takes 22 shown anew 1 2 3 4;seam g takes 27 anew 1 2 3 4;"
            + "seam h takes 33 anew 1 2 3 4;seam i takes 21 anew 1 2 3 4;seam j takes 24 anew 1 2 3 4;rule x when used>60;";
        BelowThread x = Checks.in(text);
        com.sun.management.ThreadMXBean threads = (com.sun.management.ThreadMXBean) ManagementFactory.getThreadMXBean();
        long thread = Thread.currentThread().getId();
        dear(x);
        long before = threads.getThreadAllocatedBytes(thread);
        for (int n = 0; n < 50; n++) {
            dear(x);
        }
        Checks.due("bytes made by calls", threads.getThreadAllocatedBytes(thread) - before < 4096, true);
        before = threads.getThreadAllocatedBytes(thread);
        BelowThread y = new BelowThread();
        long bytes = threads.getThreadAllocatedBytes(thread) - before;
        Checks.due("bytes of an object", bytes < 40000, true);
        Checks.due("and it is used", y.has(1), 0);
    }

    private static void dear(BelowThread x) {
        for (int length = 38; length < 44; length++) {
            x.free(length, -1);
            x.several(length, -1);
            x.hidden(length, 0);
            x.fewest(length, 2);
            x.row(4, length, 9, 0);
        }
        x.feed(1, 2, 3, 4, 5);
        x.room();
        x.image();
        x.anew();
        x.sews(4);
        x.undo();
    }
}
