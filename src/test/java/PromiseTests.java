/** Each promise of the document in turn: ordinary inputs, the edges that it names, wrong inputs. */
final class PromiseTests {
    private static final String ONE = "bobbin lasts 7 odds 100;";
    private static final String FIVE = ONE + "seam a takes 4;seam b takes 3;seam c takes 3;seam d takes 4;"
            + "seam e takes 7 shown anew 2 5;wind 3;mend 0;girls 3;";
    private static final String SEVEN = "bobbin lasts 10 odds 100;seam a takes 4;seam b takes 4;seam c takes 4;"
            + "seam d takes 4;seam e takes 4;seam f takes 4;seam g takes 4;rule r when used>4;wind 2;mend 5;look 1;";

    public static void main(String[] args) {
        newObject();
        tape();
        rooms();
        told();
        courses();
        means();
        chance();
        looks();
        rules();
        fewest();
        free();
        roomAfterRoom();
        hidden();
        several();
        wound();
        day();
        sews();
        anewAndUndo();
        seeds();
        seen();
        questions();
        sums();
        images();
        standing();
        status();
        Checks.end("PromiseTests");
    }

    // ---- promises 1 to 3

    private static void newObject() {
        BelowThread x = new BelowThread();
        int[] has = {0, 0, 0, 2, 9, 1, 9, 5, 1, 0, 0, 0};
        for (int what = -2; what < 15; what++) {
            Checks.due("has(" + what + ") without a room", x.has(what), what < 0 || what > 11 ? -1 : has[what]);
        }
        Checks.due("NONE", BelowThread.NONE, -1);
        Checks.due("NOTHING", BelowThread.NOTHING, -1000000000000000L);
        for (int what = 0; what < 6; what++) {
            Checks.due("day without a room", x.day(what), 0);
            Checks.due("status of a new object", x.status(what), 0);
        }
        Checks.due("row without a room", x.row(0, 9, 0, 0), -1);
        Checks.due("judge without a room", x.judge(0, 9, 1), -1);
        Checks.due("mean without a room", x.mean(0), -1);
        Checks.due("when without a room", x.when(0, 0), -1);
        Checks.due("looks without a room", x.looks(0), -1);
        Checks.due("looks without a room", x.looks(1), -1);
        Checks.due("rule without a room", x.rule(), -1);
        Checks.due("fewest without a room", x.fewest(9, -1), -1);
        Checks.due("free without a room", x.free(9, -1), -1);
        Checks.due("hidden without a room", x.hidden(9, 0), -1);
        Checks.due("several without a room", x.several(9, -1), -1);
        Checks.due("wound without a room", x.wound(99), 19 * 9 + 4 * 2);
        Checks.due("octet without an image", x.octet(0), -1);
        Checks.due("fault ahead of any", x.fault(0), 0);
        Checks.due("place ahead of any", x.fault(1), -1);
        Checks.due("image without a room", x.image(), 8);
        Checks.due("its bobbin", x.octet(2), 0);
        Checks.due("its check", x.octet(7), 230);
    }

    private static void tape() {
        BelowThread x = new BelowThread();
        for (int n = 1; n <= 80; n++) {
            Checks.due("feed", x.feed(0, -1, n, Integer.MIN_VALUE, Integer.MAX_VALUE), 20 * n);
        }
        Checks.due("feed over 1600", x.feed(0, 0, 0, 0, 0), -1);
        Checks.due("feed over 1600", x.feed(0, 0, 0, 0, 0), -1);
        Checks.due("end(1601)", x.end(1601), false);
        Checks.due("end(1600)", x.end(1600), true);
        Checks.due("end(1581)", x.end(1581), true);
        Checks.due("feed over 1600 by one", x.feed(0, 0, 0, 0, 0), -1);
        Checks.due("end(1580)", x.end(1580), true);
        Checks.due("feed to 1600", x.feed(0, 0, 0, 0, 0), 1600);
        Checks.due("end(-1)", x.end(-1), false);
        Checks.due("end(MIN)", x.end(Integer.MIN_VALUE), false);
        Checks.due("end(MAX)", x.end(Integer.MAX_VALUE), false);
        Checks.due("refused", x.status(0), 7);
        Checks.due("end(3)", x.end(3), true);
        Checks.due("end(4) behind it", x.end(4), false);
        Checks.due("feed behind three", x.feed(0, 0, 0, 0, 0), 23);
        Checks.due("end(0)", x.end(0), true);
        Checks.due("end(0) of none", x.end(0), true);
        // Bytes come the highest first, and behind those that are there.
        x = new BelowThread();
        x.feed('b' << 24 | 'o' << 16 | 'b' << 8 | 'b', 'i' << 24 | 'n' << 16 | ' ' << 8 | 'l', 'a' << 24, 0, 0);
        x.end(9);
        x.feed('s' << 24 | 't' << 16 | 's' << 8 | ' ', '7' << 24 | ' ' << 16 | 'o' << 8 | 'd', 'd' << 24 | 's' << 16 | ' ' << 8 | '1',
            '0' << 24 | '0' << 16 | ';' << 8 | 10, 10 << 24 | 10 << 16 | 32 << 8 | 32);
        Checks.due("room by bytes", x.room(), 1);
        Checks.due("its length", x.bobbin(0, 0), 7);
    }

    // ---- promises 4 to 9 (the faults have tests of their own)

    private static void rooms() {
        BelowThread x = Checks.in(Checks.BIG);
        x.seed(64 * 99);
        x.sew(false);
        x.sew(false);
        Checks.tape(x, 1, 0, 2, 1);
        x.see();
        Checks.due("statements", Checks.room(x, FIVE), 9);
        Checks.due("nothing is sewn", x.day(0), 0);
        Checks.due("nothing used", x.day(1), 0);
        Checks.due("nothing spent", x.day(4), 0);
        Checks.due("nothing SEEN", x.has(10), 0);
        Checks.due("no fits", x.fits(0), -1);
        Checks.due("nothing to undo", x.has(11), 0);
        Checks.due("undo", x.undo(), false);
        Checks.due("minutes anew", x.has(6), 9);
        Checks.due("rules gone", x.has(2), 0);
        Checks.due("the first length is on", Checks.imageOf(x)[2], 7);
        // The seed stays, as the one draw (for what was mended) left it.
        long next = (1103515245L * 6336 + 12345) % (1L << 31);
        next = (1103515245L * next + 12345) % (1L << 31);
        Checks.room(x, "bobbin lasts 1 odds 50 lasts 2 odds 50;");
        Checks.due("the seed stays", x.anew(), next / 64 % 100 < 50 ? 1 : 2);
        Checks.due("the tape went", x.end(1), false);
        Checks.due("room again", Checks.room(x, ONE + ONE), -1);
        Checks.due("refused", x.status(1), 1);
    }

    private static void told() {
        BelowThread x = Checks.in(Checks.BIG + "wind 5;wind 7;ahead 9;girls 3;look 0;");
        int[] has = {2, 3, 2, 7, 9, 0, 5, 9, 3, 23, 0, 0};
        for (int what = 0; what < 12; what++) {
            Checks.due("has(" + what + ")", x.has(what), has[what]);
        }
        letters(x, 0, 0, "hem");
        letters(x, 0, 1, "cuff");
        letters(x, 1, 1, "never");
        Checks.due("letter of no kind", x.letter(2, 0, 0), -1);
        Checks.due("letter of no kind", x.letter(-1, 0, 0), -1);
        Checks.due("letter of no seam", x.letter(0, 3, 0), -1);
        Checks.due("letter of no seam", x.letter(0, -1, 0), -1);
        Checks.due("letter of no rule", x.letter(1, 2, 0), -1);
        Checks.due("letter of no place", x.letter(0, 0, 6), -1);
        Checks.due("letter of no place", x.letter(0, 0, -1), -1);
        letters(Checks.in(ONE + "seam zabcdy takes 1;"), 0, 0, "zabcdy");
        Checks.due("bobbin(0, 1)", x.bobbin(0, 1), 50);
        Checks.due("bobbin(1, 0)", x.bobbin(1, 0), 20);
        Checks.due("bobbin of none", x.bobbin(2, 0), -1);
        Checks.due("bobbin of none", x.bobbin(-1, 0), -1);
        Checks.due("bobbin of no what", x.bobbin(0, 2), -1);
        Checks.due("bobbin of no what", x.bobbin(0, -1), -1);
        int[] last = {12, 1, 2, -1, -1, -1, -1, -1, -1, -1, 4, 8, -1, -1};
        for (int what = -1; what < 14; what++) {
            Checks.due("seam(2, " + what + ")", x.seam(2, what), what < 0 ? -1 : last[what]);
        }
        Checks.due("seam of none", x.seam(3, 0), -1);
        Checks.due("seam of none", x.seam(-1, 0), -1);
        Checks.due("seam that shows not", x.seam(1, 1), 0);
        Checks.due("seam without places", x.seam(1, 10), -1);
        Checks.due("seam far off", x.seam(1, Integer.MAX_VALUE), -1);
    }

    private static void letters(BelowThread x, int kind, int which, String name) {
        for (int k = 0; k < 6; k++) {
            Checks.due("letter " + k + " of " + name, x.letter(kind, which, k), k < name.length() ? name.charAt(k) - 96 : 0);
        }
    }

    // ---- promises 10 to 15

    private static void courses() {
        BelowThread x = Checks.in(SEVEN);
        // by length 10: 4 8 | mended in the third, then again from 0
        int[] never = {0, 4, 8, 0, 4, 8, 0};
        for (int k = 0; k < 7; k++) {
            Checks.due("row(0, 10, k, 0)", x.row(0, 10, k, 0), never[k]);
            Checks.due("row(0, 10, k, 1)", x.row(0, 10, k, 1), 0);
            Checks.due("row(0, 10, k, 2)", x.row(0, 10, k, 2), never[k] == 8 ? 1 : 0);
            Checks.due("row(4, 10, k, 1)", x.row(4, 10, k, 1), k == 2 || k == 4 || k == 6 ? 1 : 0);
            Checks.due("row(4, 10, k, 0)", x.row(4, 10, k, 0), k % 2 == 0 ? 0 : 4);
        }
        Checks.due("judge mended first", x.judge(0, 10, 0), 2);
        Checks.due("judge mended", x.judge(0, 10, 2), 2);
        Checks.due("judge cost", x.judge(0, 10, 3), 14);
        Checks.due("judge of a rule", x.judge(4, 10, 3), 6);
        Checks.due("judge of a look", x.judge(2, 10, 3), 6 + 6);
        Checks.due("judge of FULL", x.judge(1, 99, 1), 3);
        Checks.due("mended at 1", x.judge(0, 1, 2), 7);
        Checks.due("changes with nothing used", x.judge(1, 1, 1), 0);
        Checks.due("looks with nothing used", x.judge(2, 1, 3), 49);
        Checks.due("CHANCE with seven", x.judge(3, 10, 3), -1);
        Checks.due("CHANCE with seven", x.row(3, 10, 0, 0), -1);
        Checks.due("length 99", x.judge(0, 99, 0), -1);
        for (int length : new int[] {0, 100, -1, Integer.MIN_VALUE, Integer.MAX_VALUE}) {
            Checks.due("no such length", x.judge(0, length, 1), -1);
            Checks.due("no such length", x.row(0, length, 0, 0), -1);
        }
        for (int sewer : new int[] {-1, 5, Integer.MIN_VALUE, Integer.MAX_VALUE}) {
            Checks.due("no such sewer", x.judge(sewer, 10, 1), -1);
            Checks.due("no such sewer", x.row(sewer, 10, 0, 0), -1);
            Checks.due("no such sewer", x.mean(sewer), -1);
        }
        Checks.due("no such seam", x.row(0, 10, 7, 0), -1);
        Checks.due("no such seam", x.row(0, 10, -1, 0), -1);
        Checks.due("no such what", x.row(0, 10, 0, 3), -1);
        Checks.due("no such what", x.row(0, 10, 0, -1), -1);
        Checks.due("no such what", x.judge(0, 10, 4), -1);
        Checks.due("no such what", x.judge(0, 10, -1), -1);
        Checks.due("judge without seams", Checks.in(ONE).judge(0, 10, 3), 0);
        Checks.due("judge without seams", Checks.in(ONE).judge(0, 10, 0), -1);
    }

    private static void means() {
        BelowThread x = Checks.in(SEVEN);
        Checks.due("mean of seven", x.mean(0), -1);
        Checks.due("when of seven", x.when(0, 1), -1);
        Checks.due("looks of seven", x.looks(0), -1);
        Checks.due("rule of seven", x.rule(), -1);
        Checks.due("mean without seams", Checks.in(ONE).mean(0), 0);
        Checks.due("mean without seams", Checks.in(ONE).mean(3), 0);
        Checks.due("mean without the rule", Checks.in(ONE).mean(4), -1);
        // one seam of 5 by 4 (1 of 3 hundredths) or 6: (2 + 9) * 0.33
        Checks.due("mean to the thousandth", Checks.in("bobbin lasts 4 odds 33 lasts 6 odds 67;seam a takes 5;").mean(0), 3630);
        // 11 * (0.33 * 0.33 * ...): two seams of 5: 0.33 * 11 + ... by never: second mended by 0.33 (fresh) or always
        Checks.due("mean of two", Checks.in("bobbin lasts 4 odds 33 lasts 6 odds 67;seam a takes 5;seam b takes 5;").mean(0),
            (int) (3630 + 11000 * (0.33 * 0.33 + 0.67) + 1e-6));
        // the floor: 0.01 of 0.01 of 11 minutes is 1.1 thousandths
        Checks.due("mean floored", Checks.in("bobbin lasts 4 odds 1 lasts 9 odds 99;seam a takes 5;seam b takes 1;mend 0;wind 1;").mean(0), 10);
    }

    private static void chance() {
        BelowThread x = Checks.in(Checks.BIG);
        for (int seam = 0; seam < 3; seam++) {
            Checks.due("with nothing used never", x.when(seam, 0), 0);
        }
        Checks.due("more used than any", x.when(0, 21), 1);
        Checks.due("used 99", x.when(2, 99), 1);
        Checks.due("used 100", x.when(2, 100), -1);
        Checks.due("used -1", x.when(2, -1), -1);
        Checks.due("no seam 3", x.when(3, 1), -1);
        Checks.due("no seam -1", x.when(-1, 1), -1);
        // Of like ones not: changing costs 0 and brings nothing; with 1 of 100 it brings something.
        String free = "bobbin lasts 9 odds 100;seam a takes 3;wind 0;mend 9;";
        Checks.due("of like ones not", Checks.in(free).when(0, 6), 0);
        Checks.due("it would run out", Checks.in(free).when(0, 7), 1);
        Checks.due("out in any case, both mended", Checks.in("bobbin lasts 2 odds 100;seam a takes 3;wind 0;").when(0, 7), 0);
        // A bobbin of which as much is used as one lasts has not run out: 5 of 5 or 9, then 4 more.
        String even = "bobbin lasts 5 odds 50 lasts 9 odds 50;seam a takes 4;wind 5;mend 5;";
        Checks.due("given it has not run out", Checks.in(even).when(0, 5), 0);
        Checks.due("given it has not run out", Checks.in(even).when(0, 6), 1);
    }

    private static void looks() {
        BelowThread x = Checks.in(Checks.BIG);
        Checks.due("looks(0)", x.looks(0), 6750);
        Checks.due("looks(1)", x.looks(1), 750);
        Checks.due("looks(2)", x.looks(2), -1);
        Checks.due("looks(-1)", x.looks(-1), -1);
        Checks.due("looks by the way", x.mean(3), 7500);
        BelowThread dear = Checks.in(Checks.BIG + "look 99;");
        Checks.due("a dear look's worth", dear.looks(1), 0);
        Checks.due("a dear look", dear.looks(0), 7500);
        Checks.due("looks without seams", Checks.in(ONE).looks(0), 0);
        Checks.due("looks without seams", Checks.in(ONE).looks(1), 0);
    }

    private static void rules() {
        String two = "bobbin lasts 10 odds 100;seam a takes 6;seam b takes 6;";
        Checks.due("rule without rules", Checks.in(two).rule(), -1);
        Checks.due("the cheaper one", Checks.in(two + "rule x when used>6;rule y when used=6;rule z when all;").rule(), 1);
        Checks.due("the first of like ones", Checks.in(two + "rule y when used=6;rule z when all;").rule(), 0);
        // Less than a thousandth apart: 0.01 * 0.01 * 0.01 of a minute.
        String fine = "bobbin lasts 1 odds 99 lasts 2 odds 1;seam a takes 1;seam b takes 1;seam c takes 1;wind 1;mend 0;";
        BelowThread x = Checks.in(fine + "rule x when not all;rule y when all;rule z when number=2 or number=1;");
        Checks.due("rule by exact costs", x.rule(), 0);
        // What the parts tell: wants only where all of it is so.
        String parts = two + "seam c takes 3 shown;rule x when takes=3 and shown=1 and used=6 and rest=3 and number=2 and least=10 and most=10;";
        Checks.due("parts of a rule", Checks.in(parts).judge(4, 99, 1), 0);
        parts = parts.replace("used=6", "used=12");
        Checks.due("parts of a rule", Checks.in(parts).judge(4, 99, 1), 1);
        Checks.due("parts of a rule", Checks.in(parts).row(4, 99, 2, 1), 1);
        String most = "bobbin lasts 30 odds 40 lasts 10 odds 30 lasts 20 odds 30;seam a takes 2;seam b takes 3;rule x when least=10 and most=30 and rest=3 and shown=0 and number=1;";
        Checks.due("least and most", Checks.in(most).judge(4, 99, 1), 1);
    }

    // ---- promises 16 to 20

    private static void wrongPlans(BelowThread x) {
        for (int length : new int[] {0, -1, 100, Integer.MAX_VALUE, Integer.MIN_VALUE}) {
            Checks.due("fewest(" + length + ")", x.fewest(length, -1), -1);
            Checks.due("free(" + length + ")", x.free(length, -1), -1);
            Checks.due("several(" + length + ")", x.several(length, -1), -1);
            Checks.due("hidden(" + length + ")", x.hidden(length, 0), -1);
        }
        for (int k : new int[] {-2, x.has(1), Integer.MAX_VALUE, Integer.MIN_VALUE}) {
            Checks.due("fewest k " + k, x.fewest(99, k), -1);
            Checks.due("free k " + k, x.free(99, k), -1);
            Checks.due("several k " + k, x.several(99, k), -1);
        }
        for (int what : new int[] {-1, 2, 9, 1000, Integer.MAX_VALUE, Integer.MIN_VALUE}) {
            Checks.due("hidden what " + what, x.hidden(99, what), -1);
        }
    }

    private static void fewest() {
        BelowThread x = Checks.in(FIVE);
        wrongPlans(x);
        int[] begins = {1, 0, 1, 0, 1};
        for (int k = 0; k < 5; k++) {
            Checks.due("fewest(7, k)", x.fewest(7, k), begins[k]);
        }
        Checks.due("fewest(7)", x.fewest(7, -1), 3);
        Checks.due("fewest(6)", x.fewest(6, -1), -1);
        Checks.due("fewest(6, 0)", x.fewest(6, 0), -1);
        Checks.due("fewest(99)", x.fewest(99, -1), 1);
        Checks.due("fewest without seams", Checks.in(ONE).fewest(9, -1), 0);
        Checks.due("fewest without seams", Checks.in(ONE).fewest(9, 0), -1);
        wrongPlans(Checks.in(ONE));
    }

    private static void free() {
        // 5 5 4 4 3 3 by 12: in two, 5 4 3 and 5 4 3, though 5 5 would go first
        BelowThread x = Checks.in(ONE + "seam a takes 5;seam b takes 5;seam c takes 4;seam d takes 4;seam e takes 3;seam f takes 3;");
        int[] way = {0, 1, 0, 1, 0, 1};
        for (int k = 0; k < 6; k++) {
            Checks.due("free(12, k)", x.free(12, k), way[k]);
        }
        Checks.due("free(12)", x.free(12, -1), 2);
        Checks.due("fewest(12)", x.fewest(12, -1), 3);
        int[] more = {0, 1, 2, 2, 0, 1};
        for (int k = 0; k < 6; k++) {
            Checks.due("free(8, k)", x.free(8, k), more[k]);
        }
        Checks.due("free(4)", x.free(4, -1), -1);
        Checks.due("free(5)", x.free(5, -1), 6);
        Checks.due("free(24)", x.free(24, -1), 1);
        Checks.due("free without seams", Checks.in(ONE).free(9, -1), 0);
    }

    /** Rooms told one behind the other on one object: nothing of the one before is left. */
    private static void roomAfterRoom() {
        BelowThread x = Checks.in(FIVE);
        for (int n = 0; n < 3; n++) {
            Checks.due("free", x.free(12, -1), 2);
            Checks.due("several", x.several(12, -1), 7);
            Checks.due("when of like ones", x.when(2, 6), 0);
            Checks.due("mean", x.mean(3), 6000);
            Checks.due("room", Checks.room(x, ONE + "seam a takes 5;seam b takes 7;wind 9;mend 1;rule r when all;"), 6);
            Checks.due("free in another room", x.free(12, -1), 1);
            Checks.due("several in another room", x.several(12, -1), 12);
            Checks.due("mean in another room", x.mean(3), 9000);
            Checks.due("when in another room", x.when(1, 5), 1);
            Checks.due("mean in another room", x.mean(4), 9000);
            Checks.due("minutes", x.has(8), 1);
            Checks.due("rules", x.has(2), 1);
            Checks.due("seams", x.has(1), 2);
            Checks.due("yards", x.has(9), 12);
            Checks.due("places", x.seam(1, 2), 0);
            Checks.due("a bad room between", Checks.room(x, ONE + "seam z takes 9;seam z takes 3;"), -1);
            Checks.due("seams stay", x.has(1), 2);
            Checks.due("free stays", x.free(12, -1), 1);
            Checks.due("room", Checks.room(x, FIVE), 9);
            Checks.due("hidden", x.hidden(7, 10), 200);
            Checks.due("mean", x.mean(0), 6000);
            Checks.due("one seam", Checks.room(x, ONE + "seam a takes 9;"), 2);
            Checks.due("mean of one seam", x.mean(0), 11000);
            Checks.due("several of one seam", x.several(9, -1), 9);
            Checks.due("no seam", Checks.room(x, ONE), 1);
            Checks.due("several of none", x.several(9, -1), 0);
            Checks.due("free of none", x.free(9, -1), 0);
            Checks.due("hidden of none", x.hidden(7, 0), 0);
            Checks.due("hidden of none", x.hidden(7, 1), 0);
            Checks.due("hidden of none", x.hidden(7, 10), -1);
            Checks.due("room", Checks.room(x, FIVE), 9);
        }
    }

    private static void hidden() {
        BelowThread x = Checks.in(Checks.BIG);
        int[][] told = {{20, 2, 0, 200, -1}, {12, 2, 0, 200, -1}, {9, 3, 1, 100, 204}, {6, 5, 2, 100, 200}, {23, 1, 0, -1, -1}};
        for (int[] row : told) {
            Checks.due("hidden(" + row[0] + ", 0)", x.hidden(row[0], 0), row[1]);
            Checks.due("hidden(" + row[0] + ", 1)", x.hidden(row[0], 1), row[2]);
            Checks.due("hidden(" + row[0] + ", 10)", x.hidden(row[0], 10), row[3]);
            Checks.due("hidden(" + row[0] + ", 11)", x.hidden(row[0], 11), row[4]);
        }
        Checks.due("hidden(5)", x.hidden(5, 0), -1);
        Checks.due("hidden(5, 1)", x.hidden(5, 1), -1);
        Checks.due("hidden(5, 10)", x.hidden(5, 10), -1);
        // Rather at a place in a seam that shows not, though it is earlier.
        BelowThread y = Checks.in(ONE + "seam a takes 9 anew 3;seam b takes 9 shown anew 1 5;");
        Checks.due("hidden rather unseen", y.hidden(15, 10), 100);
        y = Checks.in(ONE + "seam a takes 9 anew 3;seam b takes 9 shown anew 5;seam c takes 4;");
        Checks.due("hidden by fewest first", y.hidden(14, 0), 2);
        Checks.due("hidden by what shows", y.hidden(14, 1), 0);
        Checks.due("hidden ahead of b", y.hidden(14, 10), 100);
        Checks.due("hidden in b, 13 at most", y.hidden(13, 10), 100);
        Checks.due("hidden by 12", y.hidden(12, 0), 3);
        Checks.due("hidden by 12", y.hidden(12, 10), 100);
        Checks.due("hidden by 12", y.hidden(12, 11), 200);
        Checks.due("hidden by 12", y.hidden(12, 1), 0);
        Checks.due("hidden without seams", Checks.in(ONE).hidden(9, 0), 0);
        Checks.due("hidden without seams", Checks.in(ONE).hidden(9, 1), 0);
        Checks.due("hidden without seams", Checks.in(ONE).hidden(9, 10), -1);
    }

    private static void several() {
        BelowThread x = Checks.in(FIVE);
        int[] girls = {0, 0, 1, 1, 2};
        for (int k = 0; k < 5; k++) {
            Checks.due("several(7, k)", x.several(7, k), girls[k]);
        }
        Checks.due("several(7)", x.several(7, -1), 7);
        Checks.due("several(6)", x.several(6, -1), -1);
        BelowThread one = Checks.in(FIVE + "girls 1;");
        Checks.due("several of one girl", one.several(7, -1), 21 + 2 * 3);
        Checks.due("several of one girl", one.several(7, 4), 0);
        Checks.due("several of one girl by 99", one.several(99, -1), 21);
        // Of like ones the first by seams: the long one alone, the rest together.
        BelowThread y = Checks.in(ONE + "seam a takes 8;seam b takes 1;seam c takes 1;seam d takes 2;girls 3;");
        int[] like = {0, 1, 1, 1};
        for (int k = 0; k < 4; k++) {
            Checks.due("several(9, k)", y.several(9, k), like[k]);
        }
        Checks.due("several without seams", Checks.in(ONE).several(9, -1), 0);
    }

    private static void wound() {
        BelowThread x = Checks.in(ONE + "wind 2;batch 5;ahead 3;");
        int[] due = {0, 2, 4, 5, 7, 9, 10, 12, 14, 15};
        for (int n = 0; n < due.length; n++) {
            Checks.due("wound(" + n + ")", x.wound(n), due[n]);
        }
        Checks.due("wound(99)", x.wound(99), 165);
        Checks.due("wound(100)", x.wound(100), -1);
        Checks.due("wound(-1)", x.wound(-1), -1);
        Checks.due("wound(MIN)", x.wound(Integer.MIN_VALUE), -1);
        Checks.due("fewer at once", Checks.in(ONE + "wind 9;batch 1;ahead 9;").wound(10), 2);
        Checks.due("one at once", Checks.in(ONE + "wind 9;batch 1;ahead 1;").wound(5), 5);
        Checks.due("batch 0", Checks.in(ONE + "batch 0;").wound(99), 0);
        Checks.due("wind 0", Checks.in(ONE + "wind 0;").wound(99), 0);
    }

    // ---- promises 21 to 27

    private static void dayIs(String when, BelowThread x, int sewn, int used, int changes, int mends, int cost, int left) {
        int[] due = {sewn, used, changes, mends, cost, left};
        for (int what = 0; what < 6; what++) {
            Checks.due(when + ": day(" + what + ")", x.day(what), due[what]);
        }
    }

    private static void day() {
        BelowThread x = Checks.in(FIVE + "mend 4;look 2;");
        Checks.due("day(6)", x.day(6), -1);
        Checks.due("day(-1)", x.day(-1), -1);
        dayIs("at first", x, 0, 0, 0, 0, 0, 1);
        Checks.due("changed with nothing used", x.sew(true), -1);
        Checks.due("no act", x.has(11), 0);
        Checks.due("sew a", x.sew(false), 0);
        dayIs("a", x, 1, 4, 0, 0, 0, 1);
        Checks.due("glance at b", x.glance(), 1);
        dayIs("glance", x, 1, 4, 0, 0, 2, 1);
        Checks.due("sew b", x.sew(false), 0);
        dayIs("b", x, 2, 7, 0, 0, 2, 1);
        Checks.due("glance at c", x.glance(), 0);
        Checks.due("sew c", x.sew(false), 1);
        dayIs("c", x, 3, 0, 0, 1, 11, 1);
        Checks.due("glance on a fresh one", x.glance(), 1);
        Checks.due("changed behind mending", x.sew(true), -1);
        Checks.due("sew d", x.sew(false), 0);
        Checks.due("sew e", x.sew(true), 0);
        dayIs("e", x, 5, 7, 1, 1, 16, 0);
        Checks.due("none left", x.sew(false), -1);
        Checks.due("none left", x.glance(), -1);
        Checks.due("none left", x.sews(0), -1);
        Checks.due("refused", x.status(2), 5);
        Checks.due("acts", x.has(11), 8);
        dayIs("still", x, 5, 7, 1, 1, 16, 0);
        // changed, and mended all the same
        BelowThread y = Checks.in(ONE + "seam a takes 1;seam b takes 8;");
        y.sew(false);
        Checks.due("changed and mended", y.sew(true), 1);
        dayIs("both", y, 2, 0, 1, 1, 13, 0);
    }

    private static void sews() {
        BelowThread x = Checks.in(SEVEN);
        Checks.due("CHANCE with seven", x.sews(3), -1);
        Checks.due("no sewer 5", x.sews(5), -1);
        Checks.due("no sewer -1", x.sews(-1), -1);
        Checks.due("sews(4)", x.sews(4), 6);
        dayIs("a rule", x, 7, 4, 3, 0, 6, 0);
        Checks.due("one act", x.has(11), 1);
        x.undo();
        Checks.due("sews(2)", x.sews(2), 12);
        x.undo();
        Checks.due("sews(1)", x.sews(1), 6);
        x.undo();
        x.sew(false);
        x.sew(false);
        Checks.due("sews(0) from the third on", x.sews(0), 14);
        dayIs("never", x, 7, 4, 0, 2, 14, 0);
        BelowThread y = Checks.in(FIVE);
        Checks.due("sews(3)", y.sews(3), 6);
        // all of it, where the day's cost stands still
        Checks.tape(y, Checks.image(2, 7, 7, 0, 0, 9998));
        Checks.due("on", y.on(), true);
        Checks.due("sews all of it", y.sews(0), 6);
        dayIs("stands still", y, 5, 0, 0, 2, 9999, 0);
        y.undo();
        Checks.due("undone", y.day(4), 9998);
        y.glance();
        y.glance();
        Checks.due("a look stands still", y.day(4), 9999);
        y.sew(true);
        Checks.due("a change stands still", y.day(4), 9999);
    }

    private static void anewAndUndo() {
        String two = "bobbin lasts 3 odds 40 lasts 9 odds 60;seam a takes 5;seam b takes 4;";
        BelowThread x = Checks.in(two);
        Checks.due("undo of none", x.undo(), false);
        Checks.due("refused", x.status(3), 1);
        // seed 1: x = 1103527590, floor(x / 64) mod 100 = 17242618 mod 100 = 18; then 2524885223
        Checks.due("anew by the seed 1", x.anew(), 3);
        Checks.due("mended", x.sew(false), 1);
        long second = (1103515245L * 1103527590L + 12345) % (1L << 31);
        Checks.due("the fresh one behind it", Checks.imageOf(x)[2], second / 64 % 100 < 40 ? 3 : 9);
        Checks.due("undo", x.undo(), true);
        dayIs("undone", x, 0, 0, 0, 0, 0, 1);
        Checks.due("what lasted", Checks.imageOf(x)[2], 3);
        long third = (1103515245L * second + 12345) % (1L << 31);
        Checks.due("mended again", x.sew(false), 1);
        Checks.due("the seed stays", Checks.imageOf(x)[2], third / 64 % 100 < 40 ? 3 : 9);
        Checks.due("undo", x.undo(), true);
        Checks.due("undo", x.undo(), true);
        Checks.due("the first on lasts the first told", Checks.imageOf(x)[2], 3);
        Checks.due("undo of none", x.undo(), false);
        for (int n = 0; n < 25; n++) {
            x.anew();
            Checks.due("acts", x.has(11), Math.min(20, n + 1));
        }
        for (int n = 0; n < 20; n++) {
            Checks.due("undo", x.undo(), true);
            Checks.due("acts", x.has(11), 19 - n);
        }
        Checks.due("the 21st", x.undo(), false);
        // all begins anew, and comes back
        BelowThread y = Checks.in(FIVE);
        y.sews(0);
        y.anew();
        dayIs("anew", y, 0, 0, 0, 0, 0, 1);
        y.undo();
        dayIs("back", y, 5, 0, 0, 2, 6, 0);
        Checks.due("anew without seams", Checks.in(ONE).anew(), 7);
    }

    private static void seeds() {
        String ten = "bobbin lasts 1 odds 1 lasts 2 odds 18 lasts 3 odds 20 lasts 4 odds 30 lasts 5 odds 31;";
        int[] seeds = {0, 1, 2, 5, 64, 123456789, Integer.MAX_VALUE};
        for (int seed : seeds) {
            BelowThread x = Checks.in(ten);
            Checks.due("seed(" + seed + ")", x.seed(seed), true);
            long n = seed;
            for (int k = 0; k < 30; k++) {
                n = (1103515245L * n + 12345) % (1L << 31);
                long draw = n / 64 % 100;
                Checks.due("draw", x.anew(), draw < 1 ? 1 : draw < 19 ? 2 : draw < 39 ? 3 : draw < 69 ? 4 : 5);
            }
        }
        BelowThread x = new BelowThread();
        Checks.due("seed(-1)", x.seed(-1), false);
        Checks.due("seed(MIN)", x.seed(Integer.MIN_VALUE), false);
        Checks.due("refused", x.status(4), 2);
        Checks.room(x, ten);
        Checks.due("it is 1 still", x.anew(), 2);
    }

    // ---- promises 28 to 30

    private static void see(BelowThread x, int due, int... bytes) {
        Checks.tape(x, bytes);
        Checks.due("see", x.see(), due);
        Checks.due("the tape goes", x.end(1), false);
    }

    private static void seen() {
        BelowThread x = Checks.in(FIVE);
        Checks.due("fits without rows", x.fits(0), -1);
        see(x, -1);
        see(x, -1, 0);
        see(x, -1, 0, 1, 1);
        see(x, -1, 5, 1);
        see(x, -1, 255, 1);
        see(x, -1, 0, 2);
        see(x, -1, 0, 1, 4, 255);
        see(x, -1, new int[42]);
        Checks.due("refused", x.status(1), 8);
        Checks.due("has(10)", x.has(10), 0);
        see(x, 20, new int[40]);
        Checks.due("has(10)", x.has(10), 20);
        Checks.due("the first begins on a fresh one", x.fits(0), 0);
        Checks.due("no least", x.fits(1), -1);
        Checks.due("no greatest", x.fits(2), -1);
        see(x, 1, 0, 1);
        Checks.due("all of 7 to 99", x.fits(0), 93);
        Checks.due("least", x.fits(1), 7);
        Checks.due("greatest", x.fits(2), 99);
        // 4 3 3 4 7: the third on a fresh one by 7 .. 9, the last by 7 .. 20
        see(x, 2, 2, 1, 4, 1);
        Checks.due("fits(0)", x.fits(0), 3);
        Checks.due("fits(1)", x.fits(1), 7);
        Checks.due("fits(2)", x.fits(2), 9);
        see(x, -1, 9, 9);
        Checks.due("all stays", x.fits(2), 9);
        see(x, 3, 4, 0, 4, 0, 1, 0);
        Checks.due("fits(0)", x.fits(0), 3 + 79);
        Checks.due("fits(1)", x.fits(1), 11);
        Checks.due("fits(3)", x.fits(3), -1);
        Checks.due("fits(-1)", x.fits(-1), -1);
        BelowThread y = new BelowThread();
        see(y, -1, 0, 1);
        see(Checks.in(ONE), -1, 0, 1);
    }

    private static void ask(BelowThread x, int sewer, int length, String text, long due) {
        Checks.due("ask(" + sewer + ", " + length + ") " + text, Checks.ask(x, sewer, length, text), due);
    }

    private static void questions() {
        BelowThread x = Checks.in(Checks.BIG);
        ask(x, 0, 20, "first mended=1", 2);
        ask(x, 0, 20, "first used>5", 1);
        ask(x, 0, 20, "last used<11", 1);
        ask(x, 0, 20, "often shown=1", 2);
        ask(x, 0, 20, "first used>99", -1);
        ask(x, 0, 20, "last not all", -1);
        ask(x, 0, 20, "often not all", 0);
        ask(x, 1, 20, "total changed", 2);
        ask(x, 1, 20, "total left", 60);
        ask(x, 0, 20, "total left", 20 + 14 + 9);
        ask(x, 0, 20, "most takes", 12);
        ask(x, 0, 20, "least takes", 5);
        ask(x, 0, 20, "least 0-takes", -12);
        ask(x, 0, 20, "total number", 3);
        ask(x, 0, 20, "total yards number", 23);
        ask(x, 0, 20, "total yards (number+1)", 17);
        ask(x, 0, 20, "total yards(0-1)", 0);
        ask(x, 0, 20, "total yards 3", 0);
        ask(x, 0, 20, "most yards number-yards 0", 6);
        ask(x, 0, 20, "total 9999*9999", 3000000);
        ask(x, 0, 20, "total 0-9999*9999", -3000000);
        ask(x, 2, 20, "last changed=1", 2);
        ask(x, 3, 20, "last changed=1", 1);
        ask(x, 4, 10, "often mended=1", 2);
        ask(x, 5, 20, "often mended=1", 1);
        ask(x, 6, 20, "often all", BelowThread.NOTHING);
        ask(x, -1, 20, "often all", BelowThread.NOTHING);
        ask(x, 0, 0, "often all", BelowThread.NOTHING);
        ask(x, 0, 100, "often all", BelowThread.NOTHING);
        ask(x, 0, 99, "often all", 3);
        ask(x, 0, 1, "often mended=1", 3);
        ask(Checks.in(SEVEN), 3, 10, "often all", BelowThread.NOTHING);
        ask(new BelowThread(), 0, 10, "often all", BelowThread.NOTHING);
        BelowThread none = Checks.in(ONE);
        ask(none, 0, 10, "first all", -1);
        ask(none, 0, 10, "last all", -1);
        ask(none, 0, 10, "often all", 0);
        ask(none, 0, 10, "total 5", 0);
        ask(none, 0, 10, "most 5", 0);
        ask(none, 0, 10, "least 5", 0);
    }

    private static void sums() {
        BelowThread x = Checks.in(ONE + "seam a takes 1;");
        ask(x, 0, 9, "total 2+3*4", 14);
        ask(x, 0, 9, "total 20-3-4", 13);
        ask(x, 0, 9, "total 20/3/2", 3);
        ask(x, 0, 9, "total 20/3*2", 12);
        ask(x, 0, 9, "total (0-7)/2", -4);
        ask(x, 0, 9, "total 7/(0-2)", -4);
        ask(x, 0, 9, "total (0-7)/(0-2)", 3);
        ask(x, 0, 9, "total 7/0", 0);
        ask(x, 0, 9, "total (0-7)/0", 0);
        ask(x, 0, 9, "total 1000*1000", 1000000);
        ask(x, 0, 9, "total 1000*1000+1", 1000000);
        ask(x, 0, 9, "total 1000*1001-1", 999999);
        ask(x, 0, 9, "total 9999*9999-9999*9999", 0);
        ask(x, 0, 9, "total 0-1000*1000-1+2", -999998);
        ask(x, 0, 9, "total (0-9999*9999)*(9999*9999)", -1000000);
        ask(x, 0, 9, "total min(3,2)+max(3,2)*10", 32);
        ask(x, 0, 9, "often all or all and not all", 1);
        ask(x, 0, 9, "often [all or all] and not all", 0);
        ask(x, 0, 9, "often not all or all", 1);
        ask(x, 0, 9, "often not[all or all]", 0);
        ask(x, 0, 9, "often 3<4 and 4>3 and 3=3", 1);
        ask(x, 0, 9, "often 3<3 or 3>3 or 3=4", 0);
    }

    // ---- promises 31 to 34

    private static void images() {
        BelowThread x = Checks.in(FIVE + "wind 99;mend 99;");
        x.sews(0);
        int[] due = Checks.image(5, 0, 7, 0, 2, 396);
        Checks.due("image", x.image(), 8);
        for (int k = -1; k < 10; k++) {
            Checks.due("octet(" + k + ")", x.octet(k), k >= 0 && k < 8 ? due[k] : -1);
        }
        x.undo();
        Checks.due("octet of the latest image", x.octet(0), 5);
        x.image();
        Checks.due("octet of a newer image", x.octet(0), 0);
        Checks.room(x, ONE);
        Checks.due("octet stays", x.octet(2), 7);
    }

    private static void on(BelowThread x, boolean due, int... bytes) {
        Checks.tape(x, bytes);
        Checks.due("on " + java.util.Arrays.toString(bytes), x.on(), due);
        Checks.due("the tape goes", x.end(1), false);
    }

    private static void standing() {
        BelowThread x = Checks.in(FIVE + "seam f takes 1;");
        x.sew(false);
        on(x, false);
        on(x, false, 1, 2, 3);
        on(x, false, Checks.image(7, 0, 7, 0, 0, 0));
        on(x, false, Checks.image(3, 0, 7, 4, 0, 0));
        on(x, false, Checks.image(3, 0, 7, 0, 4, 0));
        on(x, false, Checks.image(3, 5, 7, 0, 4, 0));
        on(x, false, Checks.image(3, 5, 7, 4, 0, 0));
        on(x, false, Checks.image(3, 0, 6, 0, 0, 0));
        on(x, false, Checks.image(3, 8, 7, 0, 0, 0));
        on(x, false, Checks.image(3, 0, 7, 0, 0, 10000));
        on(x, false, Checks.image(255, 255, 255, 255, 255, 65535));
        int[] wrong = Checks.image(3, 5, 7, 1, 2, 300);
        wrong[7]++;
        on(x, false, wrong);
        int[] longer = java.util.Arrays.copyOf(Checks.image(3, 5, 7, 1, 2, 300), 9);
        on(x, false, longer);
        Checks.due("refused", x.status(5), 13);
        dayIs("all stays", x, 1, 4, 0, 0, 0, 1);
        Checks.due("acts stay", x.has(11), 1);
        on(x, true, Checks.image(3, 5, 7, 1, 2, 300));
        dayIs("on", x, 3, 5, 1, 2, 300, 1);
        Checks.due("nothing can be undone", x.has(11), 0);
        Checks.due("undo", x.undo(), false);
        on(x, true, Checks.image(3, 0, 7, 3, 3, 0));
        on(x, true, Checks.image(6, 7, 7, 6, 6, 9999));
        dayIs("the most", x, 6, 7, 6, 6, 9999, 0);
        on(x, true, Checks.image(0, 3, 7, 0, 0, 0));
        Checks.due("changed, as some is used", x.sew(true), 0);
        on(x, true, Checks.image(0, 0, 7, 0, 0, 0));
        BelowThread y = Checks.in("bobbin lasts 10 odds 50 lasts 20 odds 50;seam a takes 9;");
        on(y, true, Checks.image(0, 11, 20, 0, 0, 0));
        Checks.due("glance at a longer one", y.glance(), 1);
        on(y, false, Checks.image(0, 11, 10, 0, 0, 0));
        on(y, false, Checks.image(0, 0, 0, 0, 0, 0));
        on(new BelowThread(), false, Checks.image(0, 0, 0, 0, 0, 0));
        // An image of its own brings it back, with all that follows.
        BelowThread z = Checks.in(Checks.BIG);
        z.anew();
        z.sew(false);
        int[] kept = Checks.imageOf(z);
        z.sews(2);
        on(z, true, kept);
        dayIs("kept", z, 1, 6, 0, 0, 0, 1);
    }

    private static void status() {
        BelowThread x = Checks.in(FIVE);
        x.end(1);
        x.end(-1);
        x.see();
        x.room();
        x.on();
        x.seed(-5);
        x.undo();
        x.sew(true);
        x.sews(9);
        x.sews(0);
        x.glance();
        int[] due = {2, 2, 3, 1, 1, 1};
        for (int what = -1; what < 8; what++) {
            Checks.due("status(" + what + ")", x.status(what), what < 0 || what > 5 ? -1 : due[what]);
        }
    }
}
