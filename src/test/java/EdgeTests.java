import java.util.Arrays;

/** Promises 1 to 34: each sentence that names a boundary case (or a refused call) has a test of its own. */
final class EdgeTests {
    private static final int NONE = -1;
    private static final int LOW = Integer.MIN_VALUE;
    private static final int HIGH = Integer.MAX_VALUE;
    private static final String EMPTY = "bobbin lasts 9 odds 100;";
    private static final String ROOM = "bobbin lasts 9 odds 40 lasts 6 odds 60;seam hem takes 4;seam b takes 5 shown;"
        + "seam lap takes 5 shown anew 1 3;rule abcdef when all;rule y when used=4;wind 2;mend 9;look 1;batch 5;ahead 3;girls 2;";
    private static final String SIX = seamsOf(6);
    private static final String SEVEN = seamsOf(7);
    private static final String TEN = seamsOf(10);

    public static void main(String[] args) {
        newObject();
        feed();
        end();
        room();
        fault();
        has();
        letter();
        bobbin();
        seam();
        row();
        judge();
        mean();
        when();
        looks();
        rule();
        fewest();
        free();
        hidden();
        several();
        wound();
        day();
        sew();
        glance();
        sews();
        anew();
        undo();
        seed();
        see();
        fits();
        ask();
        image();
        octet();
        on();
        status();
        for (int promise = 1; promise <= 34; promise++) {
            Document.whole("promise " + promise);
        }
        Checks.end("EdgeTests");
    }

    // ---- what the tests share

    private static void edge(int promise, String sentence) {
        Document.edge("promise " + promise, sentence);
    }

    private static void due(String what, long got, long want) {
        Checks.due(what, got, want);
    }

    private static void due(String what, boolean got, boolean want) {
        Checks.due(what, got, want);
    }

    private static String seamsOf(int seams) {
        StringBuilder out = new StringBuilder("bobbin lasts 9 odds 100;rule r when used>4;wind 2;mend 9;look 1;");
        for (int k = 0; k < seams; k++) {
            out.append("seam ").append((char) ('a' + k)).append(" takes 4;");
        }
        return out.toString();
    }

    /** Numbers below the least and above the greatest one. */
    private static int[] outside(int least, int greatest) {
        return new int[] {LOW, least - 2, least - 1, greatest + 1, greatest + 2, HIGH};
    }

    /** All that can be asked of an object without changing it. */
    private static String state(BelowThread x) {
        StringBuilder out = new StringBuilder();
        for (int what = 0; what < 12; what++) {
            out.append(x.has(what)).append(' ').append(x.day(what)).append(' ').append(x.fits(what)).append(' ');
        }
        for (int which = 0; which < 10; which++) {
            for (int k = 0; k < 14; k++) {
                out.append(x.letter(0, which, k)).append(' ').append(x.letter(1, which, k)).append(' ');
                out.append(x.seam(which, k)).append(' ').append(x.bobbin(which, k)).append(' ');
            }
            out.append(x.judge(which, 9, 3)).append(' ').append(x.octet(which)).append(' ');
        }
        return out.toString();
    }

    /** All that is found by weighing and by trying. */
    private static String found(BelowThread x) {
        StringBuilder out = new StringBuilder();
        out.append(x.free(9, NONE)).append(' ').append(x.several(9, NONE)).append(' ');
        for (int sewer = 0; sewer < 6; sewer++) {
            out.append(x.mean(sewer)).append(' ').append(x.judge(sewer, 9, 3)).append(' ');
        }
        out.append(x.looks(0)).append(' ').append(x.looks(1)).append(' ').append(x.rule()).append(' ');
        for (int length = 1; length < 12; length++) {
            for (int k = -1; k < 12; k++) {
                out.append(x.fewest(length, k)).append(' ').append(x.free(length, k)).append(' ');
                out.append(x.several(length, k)).append(' ').append(x.hidden(length, k)).append(' ');
                out.append(x.when(k, length)).append(' ');
            }
        }
        out.append(x.mean(0)).append(' ').append(x.several(9, NONE)).append(' ').append(x.free(9, NONE)).append(' ');
        return out.append(x.hidden(1, 0)).toString();
    }

    /** An object in the midst of things: rows SEEN, ACTS done, an image written. */
    private static BelowThread amid(String room) {
        BelowThread x = Checks.in(room);
        x.seed(4711);
        Checks.tape(x, 0, 1, 1, 0);
        x.see();
        x.anew();
        x.image();
        x.sew(false);
        x.glance();
        return x;
    }

    /** Both go on alike: what is asked, what can be undone, how the next ones last. */
    private static void alike(String what, BelowThread x, BelowThread twin) {
        due(what + ": asked alike", state(x).equals(state(twin)), true);
        for (int n = 0; n < 8; n++) {
            due(what + ": the next one lasts alike", x.anew(), twin.anew());
        }
        for (int n = 0; n < 12; n++) {
            due(what + ": undone alike", x.undo(), twin.undo());
            due(what + ": stands alike", Arrays.equals(Checks.imageOf(x), Checks.imageOf(twin)), true);
        }
    }

    private static void dayIs(BelowThread x, int... due) {
        for (int what = 0; what < due.length; what++) {
            due("day(" + what + ")", x.day(what), due[what]);
        }
    }

    private static void on(BelowThread x, int... image) {
        Checks.tape(x, image);
        due("on", x.on(), true);
    }

    // ---- promises 1 to 3

    private static void newObject() {
        edge(1, "No room, no SEAMS.");
        BelowThread x = new BelowThread();
        due("LENGTHS", x.has(0), 0);
        due("SEAMS", x.has(1), 0);
        due("RULES", x.has(2), 0);
        due("no room", x.anew(), NONE);
        due("no room", x.judge(0, 9, 1), NONE);
        due("no SEAMS", x.sew(false), NONE);
        due("no SEAMS left", x.day(5), 0);
    }

    private static void feed() {
        edge(2, "Twenty bytes come behind those on the tape, of each number the highest first: how many there are;");
        BelowThread x = new BelowThread();
        due("first twenty", x.feed('b' << 24 | 'o' << 16 | 'b' << 8 | 'b', 'i' << 24 | 'n' << 16 | ' ' << 8 | 'l', 'a' << 24 | 's' << 16 | 't' << 8 | 's',
            ' ' << 24 | '9' << 16 | ' ' << 8 | 'o', 'd' << 24 | 'd' << 16 | 's' << 8 | ' '), 20);
        due("behind those", x.feed('1' << 24 | '0' << 16 | '0' << 8 | ';', 0xE9FFFFFF, LOW, HIGH, -1), 40);
        due("a byte above 127", x.room(), NONE);
        due("it is no letter", x.fault(0), 1);
        due("at itself", x.fault(1), 24);
        edge(2, "NONE, refused (0), if there would be more than 1600.");
        BelowThread y = new BelowThread();
        for (int n = 1; n <= 80; n++) {
            due("feed " + n, y.feed(0x20202020, 0x20202020, 0x20202020, 0x20202020, 0x20202020), 20 * n);
        }
        due("none refused", y.status(0), 0);
        due("full", y.feed(0, 0, 0, 0, 0), NONE);
        due("refused", y.status(0), 1);
        y.end(1581);
        due("one too many", y.feed(0, 0, 0, 0, 0), NONE);
        due("refused", y.status(0), 2);
        y.end(1580);
        due("just full", y.feed(0, 0, 0, 0, 0), 1600);
        due("what was refused is not on it", y.room(), NONE);
        due("the first 0", y.fault(1), 1580);
    }

    private static void end() {
        edge(3, "The tape has its first n bytes alone: true;");
        BelowThread x = new BelowThread();
        due("0 of none", x.end(0), true);
        x.feed(0, 0, 0, 0, 0);
        due("all of 20", x.end(20), true);
        due("19 of 20", x.end(19), true);
        due("behind the 19", x.feed(0, 0, 0, 0, 0), 39);
        due("0 of 39", x.end(0), true);
        due("behind none", x.feed(0, 0, 0, 0, 0), 20);
        due("none refused", x.status(0), 0);
        edge(3, "false, refused (0), if it has not so many, or n is below 0.");
        due("21 of 20", x.end(21), false);
        due("the greatest", x.end(HIGH), false);
        due("-1", x.end(-1), false);
        due("the least", x.end(LOW), false);
        due("refused", x.status(0), 4);
        due("all 20 stay", x.feed(0, 0, 0, 0, 0), 40);
        due("1 of none", new BelowThread().end(1), false);
    }

    // ---- promises 4 to 9

    private static void room() {
        edge(4, "The tape (it goes, refused or not) is THE ROOM:");
        BelowThread x = Checks.in(ROOM);
        due("it went", x.end(1), false);
        due("refused", Checks.room(x, "seam"), NONE);
        due("it went", x.end(1), false);
        // And of the one ahead nothing is left, whatever was found in it.
        for (String ahead : new String[] {SIX, TEN, ROOM}) {
            for (String room : new String[] {EMPTY, "bobbin lasts 5 odds 100;seam a takes 5;", SIX + "wind 9;girls 3;", ROOM}) {
                Checks.room(x, ahead);
                found(x);
                Checks.room(x, room);
                due("as in a new object", found(x).equals(found(Checks.in(room))), true);
            }
        }
        edge(4, "how many STATEMENTS;");
        due("one", Checks.room(x, EMPTY), 1);
        due("twelve", Checks.room(x, ROOM), 12);
        due("60", Checks.room(x, EMPTY + "wind 3;".repeat(59)), 60);
        edge(4, "NONE, refused (1), with a FAULT (all else stays;");
        BelowThread y = amid(ROOM);
        due("61", Checks.room(y, EMPTY + "wind 3;".repeat(60)), NONE);
        due("refused", y.status(1), 1);
        due("refused", Checks.room(y, "bobbin lasts 3 odds 100;seam a takes 1;rule b when not all;wind 7;girls 3;seam a"), NONE);
        due("refused", y.status(1), 2);
        alike("a refused room", y, amid(ROOM));
        edge(4, "one without a STATEMENT has FAULT 1 at its length).");
        Checks.fault("", 1, 0);
        Checks.fault(" ", 1, 1);
        Checks.fault("\n".repeat(1600), 1, 1600);
        edge(4, "Without one nothing is sewn, SEEN or can be undone;");
        BelowThread z = amid(ROOM);
        Checks.room(z, ROOM);
        dayIs(z, 0, 0, 0, 0, 0, 1);
        due("the first LENGTH is on", Checks.imageOf(z)[2], 9);
        due("SEEN", z.has(10), 0);
        due("fits", z.fits(0), NONE);
        due("ACTS", z.has(11), 0);
        due("undo", z.undo(), false);
        edge(4, "the seed stays.");
        BelowThread one = Checks.in(ROOM);
        BelowThread other = Checks.in(ROOM);
        one.seed(99);
        other.seed(99);
        Checks.room(one, "bobbin lasts 1 odds 100;");
        Checks.room(one, ROOM);
        for (int n = 0; n < 20; n++) {
            due("how the next one lasts", one.anew(), other.anew());
        }
    }

    private static void fault() {
        edge(5, "Of the latest room() or ask(): its FAULT (what 0; 0 without, and ahead of any), its place (1; NONE without).");
        BelowThread x = new BelowThread();
        due("ahead of any", x.fault(0), 0);
        due("ahead of any", x.fault(1), NONE);
        Checks.room(x, "");
        due("FAULT at 0", x.fault(0), 1);
        due("FAULT at 0", x.fault(1), 0);
        Checks.room(x, ROOM);
        due("without", x.fault(0), 0);
        due("without", x.fault(1), NONE);
        Checks.ask(x, 0, 9, "total ;");
        due("of ask", x.fault(0), 1);
        due("of ask", x.fault(1), 6);
        Checks.ask(x, 0, 9, "total 1");
        due("without", x.fault(0), 0);
        due("without", x.fault(1), NONE);
        Checks.room(x, EMPTY + "seam a takes 3;seam a");
        due("of room", x.fault(0), 3);
        due("of room", x.fault(1), 44);
        x.see();
        x.on();
        due("of room still", x.fault(0), 3);
        due("of room still", x.fault(1), 44);
        edge(5, "NONE for another what.");
        for (int what : outside(0, 1)) {
            due("fault(" + what + ")", x.fault(what), NONE);
        }
    }

    private static void has() {
        edge(6, "How many there are: 0 LENGTHS, 1 SEAMS, 2 RULES, 3 wind, 4 mend, 5 look, 6 batch, 7 ahead, 8 girls, "
            + "9 yards of all SEAMS, 10 rows SEEN, 11 ACTS that can be undone");
        BelowThread x = amid(ROOM);
        int[] due = {2, 3, 2, 2, 9, 1, 5, 3, 2, 14, 2, 3};
        for (int what = 0; what < 12; what++) {
            due("has(" + what + ")", x.has(what), due[what]);
        }
        due("no SEAMS", Checks.in(EMPTY).has(1), 0);
        due("no yards", Checks.in(EMPTY).has(9), 0);
        due("ten SEAMS", Checks.in(TEN).has(1), 10);
        due("the most yards", Checks.in(TEN.replace("takes 4", "takes 99")).has(9), 990);
        edge(6, "(3 to 8 without a room as in one without such STATEMENTS).");
        for (int what = 3; what <= 8; what++) {
            due("has(" + what + ")", new BelowThread().has(what), Checks.in(EMPTY).has(what));
        }
        edge(6, "NONE for others.");
        for (int what : outside(0, 11)) {
            due("has(" + what + ")", x.has(what), NONE);
            due("has(" + what + ")", new BelowThread().has(what), NONE);
        }
    }

    private static void letter() {
        edge(7, "Letter k (0 .. 5) of the NAME of a SEAM (kind 0), a RULE (1): 1 .. 26;");
        BelowThread x = Checks.in(ROOM);
        due("h", x.letter(0, 0, 0), 8);
        due("m", x.letter(0, 0, 2), 13);
        due("a", x.letter(1, 0, 0), 1);
        due("f", x.letter(1, 0, 5), 6);
        due("y", x.letter(1, 1, 0), 25);
        due("z", Checks.in(EMPTY + "seam z takes 1;").letter(0, 0, 0), 26);
        edge(7, "0 behind it;");
        due("behind hem", x.letter(0, 0, 3), 0);
        due("behind hem", x.letter(0, 0, 5), 0);
        due("behind b", x.letter(0, 1, 1), 0);
        due("behind y", x.letter(1, 1, 1), 0);
        edge(7, "NONE when there is none such.");
        for (int k : outside(0, 5)) {
            due("letter(0, 0, " + k + ")", x.letter(0, 0, k), NONE);
            due("letter(1, 0, " + k + ")", x.letter(1, 0, k), NONE);
        }
        for (int kind : outside(0, 1)) {
            due("letter(" + kind + ", 0, 0)", x.letter(kind, 0, 0), NONE);
        }
        for (int which : outside(0, 2)) {
            due("letter(0, " + which + ", 0)", x.letter(0, which, 0), NONE);
        }
        for (int which : outside(0, 1)) {
            due("letter(1, " + which + ", 0)", x.letter(1, which, 0), NONE);
        }
        due("without a room", new BelowThread().letter(0, 0, 0), NONE);
        due("without a room", new BelowThread().letter(1, 0, 0), NONE);
    }

    private static void bobbin() {
        edge(8, "Of a LENGTH (as told): its yards (what 0), odds (1).");
        BelowThread x = Checks.in(ROOM);
        due("the first told", x.bobbin(0, 0), 9);
        due("the first told", x.bobbin(0, 1), 40);
        due("the last told", x.bobbin(1, 0), 6);
        due("the last told", x.bobbin(1, 1), 60);
        edge(8, "NONE when there is none such, or for others.");
        for (int length : outside(0, 1)) {
            due("bobbin(" + length + ", 0)", x.bobbin(length, 0), NONE);
            due("bobbin(" + length + ", 1)", x.bobbin(length, 1), NONE);
        }
        for (int what : outside(0, 1)) {
            due("bobbin(0, " + what + ")", x.bobbin(0, what), NONE);
        }
        due("without a room", new BelowThread().bobbin(0, 0), NONE);
    }

    private static void seam() {
        edge(9, "Of a SEAM: 0 what it takes, 1 whether it shows, 2 how many PLACES it may be begun anew at, 10 and k: the k-th of these.");
        BelowThread x = Checks.in(EMPTY + "seam a takes 1;seam b takes 99 shown anew 1 97 98;seam c takes 9 anew 1 2 3 4;");
        int[][] due = {{1, 0, 0}, {99, 1, 3, 1, 97, 98}, {9, 0, 4, 1, 2, 3, 4}};
        for (int seam = 0; seam < 3; seam++) {
            for (int k = 0; k < due[seam].length; k++) {
                due("seam " + seam + ", " + k, x.seam(seam, k < 3 ? k : 7 + k), due[seam][k]);
            }
        }
        edge(9, "NONE when there is none such, or for others.");
        due("behind no PLACE", x.seam(0, 10), NONE);
        due("behind the third PLACE", x.seam(1, 13), NONE);
        due("behind the fourth PLACE", x.seam(2, 14), NONE);
        for (int what : new int[] {LOW, -1, 3, 4, 9, 14, 20, HIGH}) {
            due("seam(2, " + what + ")", x.seam(2, what), NONE);
        }
        for (int seam : outside(0, 2)) {
            due("seam(" + seam + ", 0)", x.seam(seam, 0), NONE);
            due("seam(" + seam + ", 10)", x.seam(seam, 10), NONE);
        }
        due("without a room", new BelowThread().seam(0, 0), NONE);
    }

    // ---- promises 10 to 15

    private static void row() {
        edge(10, "A DAY of a SEWER by a told length (1 .. 99), of a SEAM: 0 yards used ahead of it (behind a change), "
            + "1 whether it was CHANGED, 2 whether MENDED.");
        BelowThread x = Checks.in(ROOM);
        // By 9 the rule y changes ahead of b alone: 4 | 5 and 5 of 9, mended.
        int[][] due = {{0, 0, 0}, {0, 1, 0}, {5, 0, 1}};
        for (int seam = 0; seam < 3; seam++) {
            for (int what = 0; what < 3; what++) {
                due("row(5, 9, " + seam + ", " + what + ")", x.row(5, 9, seam, what), due[seam][what]);
            }
        }
        due("by 1", x.row(0, 1, 2, 2), 1);
        due("by 1", x.row(0, 1, 2, 0), 0);
        due("by 99", x.row(0, 99, 2, 0), 9);
        due("the last RULE", x.row(5, 99, 1, 1), 1);
        edge(10, "NONE when there are none such, without a room, or for others.");
        for (int what = 0; what < 3; what++) {
            for (int sewer : outside(0, 5)) {
                due("no SEWER " + sewer, x.row(sewer, 9, 0, what), NONE);
            }
            for (int length : outside(1, 99)) {
                due("no length " + length, x.row(0, length, 0, what), NONE);
            }
            for (int seam : outside(0, 2)) {
                due("no SEAM " + seam, x.row(0, 9, seam, what), NONE);
            }
            due("CHANCE of six", Checks.in(SIX).row(3, 9, 0, what), 0);
            due("CHANCE of seven", Checks.in(SEVEN).row(3, 9, 0, what), NONE);
            due("without a room", new BelowThread().row(0, 9, 0, what), NONE);
            due("without SEAMS", Checks.in(EMPTY).row(0, 9, 0, what), NONE);
        }
        for (int what : outside(0, 2)) {
            due("row(0, 9, 0, " + what + ")", x.row(0, 9, 0, what), NONE);
        }
    }

    private static void judge() {
        edge(11, "That DAY's: 0 the first SEAM that was MENDED (NONE), 1 changes, 2 MENDED ones, 3 what it costs.");
        BelowThread x = Checks.in(ROOM);
        int[][] never = {{1, 0, 0, 3, 33}, {9, 2, 0, 1, 11}, {13, 2, 0, 1, 11}, {14, NONE, 0, 0, 0}, {99, NONE, 0, 0, 0}};
        for (int[] one : never) {
            for (int what = 0; what < 4; what++) {
                due("judge(0, " + one[0] + ", " + what + ")", x.judge(0, one[0], what), one[1 + what]);
            }
        }
        int[] always = {NONE, 2, 0, 4};
        int[] none = {NONE, 0, 0, 0};
        for (int what = 0; what < 4; what++) {
            due("judge(4, 9, " + what + ")", x.judge(4, 9, what), always[what]);
            due("without SEAMS", Checks.in(EMPTY).judge(0, 9, what), none[what]);
        }
        edge(11, "NONE when there are none such, without a room, or for others.");
        for (int what = 0; what < 4; what++) {
            for (int sewer : outside(0, 5)) {
                due("no SEWER " + sewer, x.judge(sewer, 9, what), NONE);
            }
            for (int length : outside(1, 99)) {
                due("no length " + length, x.judge(0, length, what), NONE);
            }
            due("CHANCE of seven", Checks.in(SEVEN).judge(3, 9, what), NONE);
            due("without a room", new BelowThread().judge(0, 9, what), NONE);
        }
        due("CHANCE of six", Checks.in(SIX).judge(3, 9, 1), 2);
        for (int what : outside(0, 3)) {
            due("judge(0, 1, " + what + ")", x.judge(0, 1, what), NONE);
        }
    }

    private static void mean() {
        edge(12, "ON THE MEAN by a SEWER, in thousandths of a minute (floor);");
        due("nothing", Checks.in(EMPTY).mean(0), 0);
        due("11 minutes", Checks.in("bobbin lasts 9 odds 100;seam a takes 10;").mean(0), 11000);
        // By 9 a second seam runs out behind a whole one: 0.01 * 1.01 + 0.99; by 99 it does not: 0.01 * 1.01.
        String room = "odds 1 lasts 9 odds 99;seam a takes 5;seam b takes 5;mend 0;wind 1;";
        due("1.0001", Checks.in("bobbin lasts 4 " + room).mean(0), 1000);
        due("0.0101", Checks.in("bobbin lasts 4 " + room.replace("lasts 9", "lasts 99")).mean(0), 10);
        // Looks and changes are free: what is mended is a second short one behind a first, 0.01 * 0.01.
        due("0.0001", Checks.in("bobbin lasts 4 odds 1 lasts 9 odds 99;seam a takes 4;seam b takes 5;mend 1;wind 0;look 0;").mean(2), 0);
        edge(12, "NONE when there is none such, more than 6 SEAMS, or no room.");
        for (int sewer : outside(0, 4)) {
            due("no SEWER " + sewer, Checks.in(SIX).mean(sewer), NONE);
        }
        for (int sewer = 0; sewer < 5; sewer++) {
            due("six SEAMS by " + sewer, Checks.in(SIX).mean(sewer) >= 0, true);
            due("seven SEAMS by " + sewer, Checks.in(SEVEN).mean(sewer), NONE);
            due("ten SEAMS by " + sewer, Checks.in(TEN).mean(sewer), NONE);
            due("no room by " + sewer, new BelowThread().mean(sewer), NONE);
        }
    }

    private static void when() {
        edge(13, "CHANCE: whether it changes ahead of a SEAM with so many yards used (0 .. 99; with 0 never): 1, 0;");
        // Where a would run out it is changed, as mending costs more; b runs out in any case, so changing brings nothing.
        BelowThread x = Checks.in("bobbin lasts 9 odds 100;seam a takes 4;seam b takes 10;");
        due("0 used", x.when(0, 0), 0);
        due("1 used", x.when(0, 1), 0);
        due("5 used", x.when(0, 5), 0);
        due("6 used", x.when(0, 6), 1);
        due("99 used", x.when(0, 99), 1);
        due("0 used, run out in any case", x.when(1, 0), 0);
        due("1 used, run out in any case", x.when(1, 1), 0);
        edge(13, "NONE when there are none such, or more than 6 SEAMS.");
        for (int seam : outside(0, 1)) {
            due("no SEAM " + seam, x.when(seam, 1), NONE);
            due("no SEAM " + seam, x.when(seam, 0), NONE);
        }
        for (int used : outside(0, 99)) {
            due("used " + used, x.when(0, used), NONE);
        }
        due("six SEAMS", Checks.in(SIX).when(5, 6), 1);
        due("seven SEAMS", Checks.in(SEVEN).when(5, 6), NONE);
        due("seven SEAMS", Checks.in(SEVEN).when(5, 0), NONE);
        due("without a room", new BelowThread().when(0, 0), NONE);
        due("without SEAMS", Checks.in(EMPTY).when(0, 0), NONE);
    }

    private static void looks() {
        edge(14, "WITH LOOKS: the least on the mean, in thousandths (floor) (what 0), a look's WORTH, so, too (1).");
        // Look ahead of b: one of 8 (1 of 100) is changed, then c by 1 of 100 again; one of 12 is changed ahead of c:
        // 0.01 * 2.02 + 0.99 * 2 = 2.0002. Without looks 0.01 * 11 + 0.99 * 2 = 2.09. So a look is worth 0.0898.
        BelowThread x = Checks.in("bobbin lasts 8 odds 1 lasts 12 odds 99;seam a takes 4;seam b takes 5;seam c takes 4;wind 2;mend 9;look 0;");
        due("2.0002", x.looks(0), 2000);
        due("2.09", x.mean(3), 2090);
        due("0.0898", x.looks(1), 89);
        due("without SEAMS", Checks.in(EMPTY).looks(0), 0);
        due("without SEAMS", Checks.in(EMPTY).looks(1), 0);
        edge(14, "NONE with more than 6 SEAMS, without a room, or for others.");
        due("six SEAMS", Checks.in(SIX).looks(0), 4000);
        due("six SEAMS", Checks.in(SIX).looks(1), 0);
        due("seven SEAMS", Checks.in(SEVEN).looks(0), NONE);
        due("seven SEAMS", Checks.in(SEVEN).looks(1), NONE);
        due("without a room", new BelowThread().looks(0), NONE);
        due("without a room", new BelowThread().looks(1), NONE);
        for (int what : outside(0, 1)) {
            due("looks(" + what + ")", x.looks(what), NONE);
        }
    }

    private static void rule() {
        edge(15, "The RULE that costs least on the mean (of like ones the first);");
        String two = "bobbin lasts 9 odds 100;seam a takes 5;seam b takes 5;";
        due("one", Checks.in(two + "rule x when all;").rule(), 0);
        due("the last", Checks.in(two + "rule w when not all;rule x when not all;rule y when not all;rule z when all;").rule(), 3);
        due("of like ones", Checks.in(two + "rule w when not all;rule x when all;rule y when all;rule z when used=5;").rule(), 1);
        due("of like ones", Checks.in(two + "rule w when not all;rule x when not all;").rule(), 0);
        due("without SEAMS", Checks.in(EMPTY + "rule w when all;rule x when all;").rule(), 0);
        edge(15, "NONE without RULES, or with more than 6 SEAMS.");
        due("without RULES", Checks.in(two).rule(), NONE);
        due("six SEAMS", Checks.in(SIX).rule(), 0);
        due("seven SEAMS", Checks.in(SEVEN).rule(), NONE);
        due("without a room", new BelowThread().rule(), NONE);
    }

    // ---- promises 16 to 20

    private static void fewest() {
        edge(16, "FEWEST by a length (1 .. 99): how many (k NONE), whether SEAM k begins on a fresh one (1, 0; the first one does).");
        BelowThread one = Checks.in("bobbin lasts 9 odds 100;seam a takes 1;seam b takes 1;");
        due("by 1", one.fewest(1, NONE), 2);
        due("by 1", one.fewest(1, 1), 1);
        due("by 2", one.fewest(2, NONE), 1);
        due("by 2", one.fewest(2, 1), 0);
        due("by 99", one.fewest(99, NONE), 1);
        due("the first one does", one.fewest(99, 0), 1);
        due("the first one does", one.fewest(1, 0), 1);
        BelowThread x = Checks.in(ROOM);
        due("14 by 14", x.fewest(14, NONE), 1);
        due("14 by 13", x.fewest(13, NONE), 2);
        edge(16, "NONE when a SEAM takes more, something can't be, or there is no room;");
        due("5 by 5", x.fewest(5, NONE), 3);
        due("5 by 4", x.fewest(4, NONE), NONE);
        due("5 by 4", x.fewest(4, 0), NONE);
        for (int length : outside(1, 99)) {
            due("no length " + length, x.fewest(length, NONE), NONE);
            due("no length " + length, x.fewest(length, 0), NONE);
            due("no length " + length, Checks.in(EMPTY).fewest(length, NONE), NONE);
        }
        for (int k : outside(NONE, 2)) {
            due("no SEAM " + k, x.fewest(9, k), NONE);
        }
        due("without a room", new BelowThread().fewest(9, NONE), NONE);
        edge(16, "0 without SEAMS.");
        due("by 1", Checks.in(EMPTY).fewest(1, NONE), 0);
        due("by 99", Checks.in(EMPTY).fewest(99, NONE), 0);
        due("no SEAM 0", Checks.in(EMPTY).fewest(9, 0), NONE);
    }

    private static void free() {
        edge(17, "ANY ORDER by a length: how many (k NONE), the bobbin of SEAM k (0 and on).");
        BelowThread one = Checks.in("bobbin lasts 9 odds 100;seam a takes 1;seam b takes 1;");
        due("by 1", one.free(1, NONE), 2);
        due("by 1", one.free(1, 0), 0);
        due("by 1", one.free(1, 1), 1);
        due("by 2", one.free(2, NONE), 1);
        due("by 2", one.free(2, 1), 0);
        due("by 99", one.free(99, NONE), 1);
        due("ten by 4", Checks.in(TEN).free(4, NONE), 10);
        due("ten by 4", Checks.in(TEN).free(4, 9), 9);
        due("ten by 8", Checks.in(TEN).free(8, 9), 4);
        edge(17, "NONE likewise.");
        BelowThread x = Checks.in(ROOM);
        due("5 by 5", x.free(5, NONE), 3);
        due("5 by 4", x.free(4, NONE), NONE);
        due("5 by 4", x.free(4, 0), NONE);
        for (int length : outside(1, 99)) {
            due("no length " + length, x.free(length, NONE), NONE);
            due("no length " + length, x.free(length, 0), NONE);
            due("no length " + length, Checks.in(EMPTY).free(length, NONE), NONE);
        }
        for (int k : outside(NONE, 2)) {
            due("no SEAM " + k, x.free(9, k), NONE);
        }
        due("without a room", new BelowThread().free(9, NONE), NONE);
        due("without SEAMS by 1", Checks.in(EMPTY).free(1, NONE), 0);
        due("without SEAMS by 99", Checks.in(EMPTY).free(99, NONE), 0);
        due("no SEAM 0", Checks.in(EMPTY).free(9, 0), NONE);
    }

    private static void hidden() {
        edge(18, "HIDDEN by a length: how many bobbins (what 0), how many begun in SEAMS that show (1), 10 and k: the k-th "
            + "one begun (behind the first one): 100 times the SEAM, and the PLACE (0 ahead of it).");
        BelowThread x = Checks.in("bobbin lasts 9 odds 100;seam a takes 4 anew 1 2 3;seam b takes 4 shown anew 1 2 3;");
        int[][] due = {{1, 8, 3, 1, 2, 3, 100, 101, 102, 103}, {2, 4, 1, 2, 100, 102}, {4, 2, 0, 100}, {7, 2, 0, 100}, {8, 1, 0}, {99, 1, 0}};
        for (int[] one : due) {
            due("hidden(" + one[0] + ", 0)", x.hidden(one[0], 0), one[1]);
            due("hidden(" + one[0] + ", 1)", x.hidden(one[0], 1), one[2]);
            for (int k = 3; k < one.length; k++) {
                due("hidden(" + one[0] + ", " + (7 + k) + ")", x.hidden(one[0], 7 + k), one[k]);
            }
            due("one too many by " + one[0], x.hidden(one[0], 7 + one.length), NONE);
        }
        due("without SEAMS", Checks.in(EMPTY).hidden(9, 0), 0);
        due("without SEAMS", Checks.in(EMPTY).hidden(9, 1), 0);
        for (int length : new int[] {1, 2, 4, 8}) {
            Checks.room(x, EMPTY + "seam a takes 4 anew 2;seam b takes 4 shown anew 2;");
            x.hidden(length, 0);
            Checks.room(x, EMPTY);
            due("without SEAMS any more", x.hidden(length, 10), NONE);
            due("without SEAMS any more", x.hidden(length, 1), 0);
            due("without SEAMS any more", x.hidden(length, 0), 0);
        }
        edge(18, "NONE when it can't be, without a room, or for others.");
        BelowThread y = Checks.in("bobbin lasts 9 odds 100;seam a takes 9 anew 4;seam b takes 2;");
        due("4 and 5 by 5", y.hidden(5, 0), 3);
        Checks.room(x, EMPTY + "seam a takes 4 anew 1 2 3;");
        for (int what : new int[] {0, 1, 10, 11}) {
            due("4 and 5 by 4", y.hidden(4, what), NONE);
            due("without a room", new BelowThread().hidden(9, what), NONE);
            for (int length : outside(1, 99)) {
                due("no length " + length, x.hidden(length, what), NONE);
                due("no length " + length, Checks.in(EMPTY).hidden(length, what), NONE);
            }
        }
        for (int what : new int[] {LOW, -1, 2, 3, 9, 12, HIGH}) {
            due("hidden(2, " + what + ")", y.hidden(5, what), NONE);
        }
        due("none begun", Checks.in(EMPTY).hidden(9, 10), NONE);
        due("one SEAM, 10 by 9", Checks.in(EMPTY + "seam a takes 10;").hidden(9, 0), NONE);
        due("one SEAM, 10 by 10", Checks.in(EMPTY + "seam a takes 10;").hidden(10, 0), 1);
        due("the first, 10 by 9", Checks.in(EMPTY + "seam a takes 10;seam b takes 2;").hidden(9, 0), NONE);
        due("the last, 10 by 9", Checks.in(EMPTY + "seam a takes 2;seam b takes 10;").hidden(9, 0), NONE);
    }

    private static void several() {
        edge(19, "SEVERAL by a length: when the last one is done (k NONE), the girl of SEAM k.");
        BelowThread one = Checks.in("bobbin lasts 9 odds 100;seam a takes 1;seam b takes 1;seam c takes 1;wind 5;girls 2;");
        due("by 1", one.several(1, NONE), 7);
        due("by 2", one.several(2, NONE), 2);
        due("by 99", one.several(99, NONE), 2);
        due("a", one.several(99, 0), 0);
        due("b", one.several(99, 1), 0);
        due("c", one.several(99, 2), 1);
        due("without SEAMS", Checks.in(EMPTY).several(9, NONE), 0);
        due("ten, each girl", Checks.in(TEN + "girls 3;").several(99, 9), 2);
        due("ten", Checks.in(TEN + "girls 3;").several(99, NONE), 16);
        edge(19, "NONE when a SEAM takes more, something can't be, or there is no room.");
        BelowThread x = Checks.in(ROOM);
        due("5 by 5", x.several(5, NONE), 11);
        due("5 by 4", x.several(4, NONE), NONE);
        due("5 by 4", x.several(4, 0), NONE);
        for (int length : outside(1, 99)) {
            due("no length " + length, x.several(length, NONE), NONE);
            due("no length " + length, x.several(length, 0), NONE);
            due("no length " + length, Checks.in(EMPTY).several(length, NONE), NONE);
        }
        for (int k : outside(NONE, 2)) {
            due("no SEAM " + k, x.several(9, k), NONE);
        }
        due("no SEAM 0", Checks.in(EMPTY).several(9, 0), NONE);
        due("without a room", new BelowThread().several(9, NONE), NONE);
    }

    private static void wound() {
        edge(20, "WOUND AHEAD: the fewest minutes for n bobbins (0 .. 99);");
        BelowThread x = Checks.in(EMPTY + "wind 2;batch 9;ahead 5;");
        due("none", x.wound(0), 0);
        due("one", x.wound(1), 2);
        due("four", x.wound(4), 8);
        due("five", x.wound(5), 9);
        due("six", x.wound(6), 11);
        due("nine", x.wound(9), 17);
        due("ten", x.wound(10), 18);
        due("99", x.wound(99), 19 * 9 + 4 * 2);
        due("without a room", new BelowThread().wound(99), 19 * 9 + 4 * 2);
        due("the dearest", Checks.in(EMPTY + "wind 99;batch 99;ahead 1;").wound(99), 9801);
        edge(20, "NONE when n can't be.");
        for (int n : outside(0, 99)) {
            due("wound(" + n + ")", x.wound(n), NONE);
            due("wound(" + n + ")", new BelowThread().wound(n), NONE);
        }
    }

    // ---- promises 21 to 27

    private static void day() {
        edge(21, "Of the DAY: 0 SEAMS sewn, 1 yards used, 2 changes, 3 MENDED ones, 4 what it cost, 5 whether SEAMS are left.");
        dayIs(new BelowThread(), 0, 0, 0, 0, 0, 0);
        dayIs(Checks.in(EMPTY), 0, 0, 0, 0, 0, 0);
        BelowThread x = Checks.in(ROOM);
        dayIs(x, 0, 0, 0, 0, 0, 1);
        x.sew(false);
        dayIs(x, 1, 4, 0, 0, 0, 1);
        x.sew(false);
        dayIs(x, 2, 9, 0, 0, 0, 1);
        x.sew(false);
        dayIs(x, 3, 0, 0, 1, 11, 0);
        edge(21, "NONE for others.");
        for (int what : outside(0, 5)) {
            due("day(" + what + ")", x.day(what), NONE);
            due("day(" + what + ")", new BelowThread().day(what), NONE);
        }
    }

    private static void sew() {
        edge(22, "The next SEAM is sewn, CHANGED ahead of it or not: 1 when it was MENDED, else 0;");
        BelowThread x = Checks.in("bobbin lasts 9 odds 100;seam a takes 4;seam b takes 5;seam c takes 1;seam d takes 10;seam e takes 1;seam f takes 10;");
        due("4 of 9", x.sew(false), 0);
        due("4 and 5 of 9", x.sew(false), 0);
        due("9 and 1 of 9", x.sew(false), 1);
        due("10 of 9", x.sew(false), 1);
        due("1 of 9", x.sew(false), 0);
        due("changed, and 10 of 9", x.sew(true), 1);
        dayIs(x, 6, 0, 1, 3, 35, 0);
        edge(22, "NONE, refused (2), when none is left, or it would be changed with nothing used.");
        due("none left", x.sew(false), NONE);
        due("none left", x.sew(true), NONE);
        due("refused", x.status(2), 2);
        dayIs(x, 6, 0, 1, 3, 35, 0);
        due("ACTS", x.has(11), 6);
        BelowThread y = amid(ROOM);
        BelowThread twin = amid(ROOM);
        y.anew();
        twin.anew();
        due("nothing used", y.sew(true), NONE);
        due("refused", y.status(2), 1);
        alike("a refused sew", y, twin);
        BelowThread z = Checks.in("bobbin lasts 9 odds 100;seam a takes 10;seam b takes 3;");
        z.sew(false);
        due("nothing used behind mending", z.sew(true), NONE);
        due("refused", z.status(2), 1);
        on(z, Checks.image(0, 1, 9, 0, 0, 0));
        due("something used ahead of the first", z.sew(true), 1);
        due("without a room", new BelowThread().sew(false), NONE);
        due("without SEAMS", Checks.in(EMPTY).sew(false), NONE);
    }

    private static void glance() {
        edge(23, "A look: 1 when the next SEAM would last, else 0;");
        BelowThread x = Checks.in("bobbin lasts 9 odds 100;seam a takes 4;seam b takes 5;seam c takes 1;look 7;");
        due("4 of 9", x.glance(), 1);
        due("with nothing used it costs, too", x.day(4), 7);
        x.sew(false);
        due("4 and 5 of 9", x.glance(), 1);
        x.sew(false);
        due("9 and 1 of 9", x.glance(), 0);
        dayIs(x, 2, 9, 0, 0, 21, 1);
        due("10 of 9", Checks.in("bobbin lasts 9 odds 100;seam a takes 10;").glance(), 0);
        due("9 of 9", Checks.in("bobbin lasts 9 odds 100;seam a takes 9;").glance(), 1);
        edge(23, "NONE, refused (2), when none is left.");
        x.sew(false);
        int acts = x.has(11);
        due("none left", x.glance(), NONE);
        due("refused", x.status(2), 1);
        due("no ACT", x.has(11), acts);
        due("no cost", x.day(4), 32);
        BelowThread y = new BelowThread();
        due("without a room", y.glance(), NONE);
        due("refused", y.status(2), 1);
        due("without SEAMS", Checks.in(EMPTY).glance(), NONE);
    }

    private static void sews() {
        edge(24, "A SEWER sews all that are left (one that looks does; with more than 6 SEAMS in the ROOM not CHANCE):");
        BelowThread x = Checks.in(SEVEN);
        due("never", x.sews(0), 2 * 11);
        dayIs(x, 7, 4, 0, 2, 22, 0);
        x.undo();
        due("one that looks", x.sews(2), 6 * 1 + 3 * 2);
        dayIs(x, 7, 4, 3, 0, 12, 0);
        x.undo();
        due("CHANCE of seven", x.sews(3), NONE);
        for (int n = 0; n < 6; n++) {
            x.sew(n % 2 == 0 && n > 0);
        }
        due("CHANCE of seven, one left", x.sews(3), NONE);
        due("the last one by FULL", x.sews(1), 2);
        dayIs(x, 7, 4, 3, 0, 6, 0);
        due("CHANCE of six", Checks.in(SIX).sews(3), 4);
        BelowThread y = Checks.in(SIX);
        int[] costs = {22, 6, 6 + 6, 6, 6};
        for (int sewer = 0; sewer < 5; sewer++) {
            on(y, Checks.image(0, 8, 9, 0, 0, 0));
            due("something used ahead of the first, by " + sewer, y.sews(sewer), costs[sewer]);
        }
        on(y, Checks.image(0, 0, 9, 0, 0, 0));
        due("a RULE", y.sews(4), 4);
        due("one ACT", y.has(11), 1);
        edge(24, "what that cost (all of it, also where the DAY's cost stands still);");
        on(y, Checks.image(0, 0, 9, 0, 0, 9999));
        due("all of it", y.sews(0), 22);
        due("stands still", y.day(4), 9999);
        on(y, Checks.image(0, 0, 9, 0, 0, 9978));
        due("all of it", y.sews(0), 22);
        due("one too many", y.day(4), 9999);
        on(y, Checks.image(0, 0, 9, 0, 0, 9977));
        y.sews(0);
        due("just so many", y.day(4), 9999);
        edge(24, "NONE, refused (2), when there is none such, or none is left.");
        BelowThread z = amid(ROOM);
        for (int sewer : outside(0, 5)) {
            due("no SEWER " + sewer, z.sews(sewer), NONE);
        }
        due("refused", z.status(2), 6);
        alike("refused sews", z, amid(ROOM));
        due("none left", y.sews(0), NONE);
        due("refused", y.status(2), 1);
        due("without a room", new BelowThread().sews(0), NONE);
        due("without SEAMS", Checks.in(EMPTY).sews(0), NONE);
        BelowThread seven = Checks.in(SEVEN);
        due("CHANCE", seven.sews(3), NONE);
        due("refused", seven.status(2), 1);
    }

    private static void anew() {
        edge(25, "All begins anew: what the fresh bobbin lasts;");
        BelowThread x = Checks.in(SEVEN);
        x.sews(2);
        due("9", x.anew(), 9);
        dayIs(x, 0, 0, 0, 0, 0, 1);
        due("an ACT", x.has(11), 2);
        due("without SEAMS", Checks.in("bobbin lasts 99 odds 100;").anew(), 99);
        // The seed 1 becomes 1103527590; by 64 that is 17242618, so a DRAW of 18.
        due("above the DRAW", Checks.in("bobbin lasts 1 odds 18 lasts 2 odds 1 lasts 3 odds 81;").anew(), 2);
        due("above the DRAW", Checks.in("bobbin lasts 1 odds 19 lasts 3 odds 81;").anew(), 1);
        edge(25, "NONE, refused (2), without a room.");
        BelowThread y = new BelowThread();
        due("anew", y.anew(), NONE);
        due("refused", y.status(2), 1);
        due("no ACT", y.has(11), 0);
        Checks.room(y, "bobbin lasts 1 odds 18 lasts 2 odds 1 lasts 3 odds 81;");
        due("no DRAW was made", y.anew(), 2);
    }

    private static void undo() {
        edge(26, "The latest ACT is undone (the seed stays): true;");
        String room = "bobbin lasts 9 odds 50 lasts 8 odds 50;seam a takes 4;seam b takes 5;";
        BelowThread x = Checks.in(room);
        x.seed(5);
        BelowThread y = Checks.in(room);
        y.seed(5);
        for (int n = 0; n < 10; n++) {
            x.anew();
            due("undone", x.undo(), true);
            due("as it was", Checks.imageOf(x)[2], 9);
            y.anew();
        }
        for (int n = 0; n < 10; n++) {
            due("the seed stayed", x.anew(), y.anew());
        }
        BelowThread z = Checks.in(room);
        z.sew(false);
        z.glance();
        z.sew(true);
        z.sews(0);
        z.anew();
        int[][] due = {{2, 5, 1, 0, 3, 0}, {1, 4, 0, 0, 1, 1}, {1, 4, 0, 0, 0, 1}, {0, 0, 0, 0, 0, 1}};
        for (int[] one : due) {
            due("undone", z.undo(), true);
            dayIs(z, one);
        }
        on(z, Checks.image(0, 9, 9, 0, 0, 0));
        z.sew(false);
        z.glance();
        z.sew(false);
        z.anew();
        int[][] mended = {{2, 5, 0, 1, 12, 0}, {1, 0, 0, 1, 12, 1}, {1, 0, 0, 1, 11, 1}, {0, 9, 0, 0, 0, 1}};
        for (int[] one : mended) {
            due("undone", z.undo(), true);
            dayIs(z, one);
        }
        edge(26, "false, refused (3), when none can be.");
        due("none left", z.undo(), false);
        due("refused", z.status(3), 1);
        dayIs(z, 0, 9, 0, 0, 0, 1);
        BelowThread full = Checks.in(room);
        for (int n = 0; n < 21; n++) {
            full.glance();
        }
        for (int n = 0; n < 20; n++) {
            due("undone", full.undo(), true);
        }
        due("the 21st", full.undo(), false);
        due("refused", full.status(3), 1);
        due("new object", new BelowThread().undo(), false);
    }

    private static void seed() {
        edge(27, "The seed: true; false, refused (4), when it is below 0.");
        String room = "bobbin lasts 1 odds 50 lasts 2 odds 50;";
        BelowThread x = Checks.in(room);
        due("0", x.seed(0), true);
        // 12345 by 64 is 192: a DRAW of 92.
        due("by 0", x.anew(), 2);
        due("the greatest", x.seed(HIGH), true);
        // (12345 - 1103515245) mod 2 to the 31 is 1043980748, by 64 16312199: a DRAW of 99.
        due("by the greatest", x.anew(), 2);
        due("none refused", x.status(4), 0);
        x.seed(1);
        due("-1", x.seed(-1), false);
        due("the least", x.seed(LOW), false);
        due("refused", x.status(4), 2);
        due("it is 1 still", x.anew(), 1);
        edge(27, "(It is 1 at first.)");
        String fine = "bobbin lasts 1 odds 18 lasts 2 odds 1 lasts 3 odds 81;";
        due("a DRAW of 18", Checks.in(fine).anew(), 2);
    }

    // ---- promises 28 to 30

    private static int see(BelowThread x, int... bytes) {
        Checks.tape(x, bytes);
        return x.see();
    }

    private static void see() {
        edge(28, "The tape (it goes, refused or not) is what is SEEN:");
        BelowThread x = Checks.in(ROOM);
        due("seen", see(x, 0, 1), 1);
        due("it went", x.end(1), false);
        due("refused", see(x, 0, 2), NONE);
        due("it went", x.end(1), false);
        edge(28, "1 to 20 rows of two bytes, SEAM, 1 if it was begun on a fresh one, else 0: how many rows;");
        due("one row", see(x, 2, 0), 1);
        due("rows", x.has(10), 1);
        due("the last SEAM", see(x, 2, 1, 0, 0), 2);
        int[] rows = new int[40];
        due("20 rows", see(x, rows), 20);
        due("rows", x.has(10), 20);
        due("19 rows", see(x, Arrays.copyOf(rows, 38)), 19);
        due("ten SEAMS", see(Checks.in(TEN), 9, 1), 1);
        edge(28, "NONE, refused (1), all staying, when it is none such.");
        BelowThread y = amid(ROOM);
        due("no row", see(y), NONE);
        due("refused", y.status(1), 1);
        due("half a row", see(y, 0), NONE);
        due("a row and a half", see(y, 0, 1, 1), NONE);
        y.feed(0x00010001, 0, 0, 0, 0);
        y.end(3);
        due("a row and a half, cut from two", y.see(), NONE);
        due("21 rows", see(y, new int[42]), NONE);
        due("20 rows and a half", see(y, new int[41]), NONE);
        due("no SEAM 3", see(y, 3, 1), NONE);
        due("no SEAM 3, behind a good row", see(y, 0, 1, 3, 1), NONE);
        due("no SEAM 255", see(y, 255, 1), NONE);
        due("neither 1 nor 0", see(y, 0, 2), NONE);
        due("neither 1 nor 0", see(y, 0, 1, 0, 255), NONE);
        due("refused", y.status(1), 11);
        alike("refused rows", y, amid(ROOM));
        due("without a room", see(new BelowThread(), 0, 1), NONE);
        due("without SEAMS", see(Checks.in(EMPTY), 0, 1), NONE);
        due("no SEAM 10", see(Checks.in(TEN), 10, 1), NONE);
    }

    private static void fits() {
        edge(29, "FITS: how many lengths (what 0), the least (1), the greatest (2; NONE of both without).");
        // 4 5 5: all on one by 14 and more, the last alone on its own by 9 to 13, each by 5 to 8.
        BelowThread x = Checks.in(ROOM);
        int[][] due = {{0, 0, 0, NONE, NONE}, {0, 1, 95, 5, 99}, {1, 1, 4, 5, 8}, {1, 0, 91, 9, 99}, {2, 1, 9, 5, 13}, {2, 0, 86, 14, 99}};
        for (int[] one : due) {
            see(x, one[0], one[1]);
            for (int what = 0; what < 3; what++) {
                due("fits(" + what + ") of " + one[0] + " " + one[1], x.fits(what), one[2 + what]);
            }
        }
        see(x, 1, 0, 2, 1, 0, 1);
        due("9 to 13", x.fits(0), 5);
        due("9 to 13", x.fits(1), 9);
        due("9 to 13", x.fits(2), 13);
        see(x, 1, 1, 2, 0);
        due("none", x.fits(0), 0);
        due("none", x.fits(1), NONE);
        due("none", x.fits(2), NONE);
        BelowThread y = Checks.in("bobbin lasts 9 odds 100;seam a takes 99;");
        see(y, 0, 1);
        due("99 alone", y.fits(0), 1);
        due("99 alone", y.fits(1), 99);
        edge(29, "NONE when nothing is SEEN, or for others.");
        for (int what = 0; what < 3; what++) {
            due("nothing SEEN", Checks.in(ROOM).fits(what), NONE);
            due("without a room", new BelowThread().fits(what), NONE);
        }
        for (int what : outside(0, 2)) {
            due("fits(" + what + ")", y.fits(what), NONE);
        }
    }

    private static void ask() {
        edge(30, "The tape (it goes, refused or not) is a QUESTION of a SEWER's DAY by a told length (1 .. 99): its answer;");
        BelowThread x = Checks.in(ROOM);
        due("by 1", Checks.ask(x, 0, 1, "often mended=1"), 3);
        due("it went", x.end(1), false);
        due("by 99", Checks.ask(x, 0, 99, "often mended=1"), 0);
        due("the last RULE", Checks.ask(x, 5, 99, "total changed"), 1);
        due("below 0", Checks.ask(x, 0, 9, "total 0-1"), -3);
        due("refused", Checks.ask(x, 0, 9, "often"), BelowThread.NOTHING);
        due("it went", x.end(1), false);
        edge(30, "NONE of first, last, when its TEST holds in none;");
        due("first", Checks.ask(x, 0, 9, "first not all"), NONE);
        due("last", Checks.ask(x, 0, 9, "last not all"), NONE);
        due("often", Checks.ask(x, 0, 9, "often not all"), 0);
        due("first without SEAMS", Checks.ask(Checks.in(EMPTY), 0, 9, "first all"), NONE);
        due("last without SEAMS", Checks.ask(Checks.in(EMPTY), 0, 9, "last all"), NONE);
        edge(30, "NOTHING with a FAULT, or (the tape goes, nothing else is done, fault() stays) when there are none such, or there is no room.");
        due("with a FAULT", Checks.ask(x, 0, 9, "total takes;"), BelowThread.NOTHING);
        due("with a FAULT", x.fault(1), 11);
        for (int sewer : outside(0, 5)) {
            due("no SEWER " + sewer, Checks.ask(x, sewer, 9, "total"), BelowThread.NOTHING);
            due("the tape goes", x.end(1), false);
            due("fault() stays", x.fault(1), 11);
            due("no SEWER " + sewer, Checks.ask(x, sewer, 9, "total 1"), BelowThread.NOTHING);
            due("fault() stays", x.fault(0), 1);
        }
        for (int length : outside(1, 99)) {
            due("no length " + length, Checks.ask(x, 0, length, "total 1"), BelowThread.NOTHING);
            due("the tape goes", x.end(1), false);
            due("fault() stays", x.fault(1), 11);
        }
        due("CHANCE of six", Checks.ask(Checks.in(SIX), 3, 9, "often all"), 6);
        due("CHANCE of seven", Checks.ask(Checks.in(SEVEN), 3, 9, "often all"), BelowThread.NOTHING);
        BelowThread y = new BelowThread();
        due("no room", Checks.ask(y, 0, 9, "total"), BelowThread.NOTHING);
        due("the tape goes", y.end(1), false);
        due("fault() stays", y.fault(0), 0);
        BelowThread z = amid(ROOM);
        Checks.ask(z, 0, 9, "total");
        Checks.ask(z, 9, 9, "total 1");
        alike("questions", z, amid(ROOM));
        due("none refused", z.status(1) + z.status(2), 0);
    }

    // ---- promises 31 to 34

    private static void image() {
        edge(31, "AN IMAGE is written: how many bytes.");
        due("without a room", new BelowThread().image(), 8);
        due("without SEAMS", Checks.in(EMPTY).image(), 8);
        BelowThread x = amid(ROOM);
        due("amid", x.image(), 8);
        alike("an image", x, imaged());
    }

    private static BelowThread imaged() {
        BelowThread twin = amid(ROOM);
        twin.image();
        return twin;
    }

    private static void octet() {
        edge(32, "Byte k of the latest image();");
        BelowThread x = Checks.in(SEVEN);
        x.image();
        x.sews(2);
        due("not written anew", x.octet(0), 0);
        x.image();
        due("the first byte", x.octet(0), 7);
        int[] due = Checks.image(7, 4, 9, 3, 0, 12);
        for (int k = 0; k < 8; k++) {
            due("octet(" + k + ")", x.octet(k), due[k]);
        }
        Checks.room(x, EMPTY);
        due("the latest one still", x.octet(0), 7);
        edge(32, "NONE when there is none such.");
        for (int k : outside(0, 7)) {
            due("octet(" + k + ")", x.octet(k), NONE);
        }
        for (int k = 0; k < 8; k++) {
            due("without an image", Checks.in(EMPTY).octet(k), NONE);
        }
    }

    private static void refusedImage(BelowThread x, String what, int... bytes) {
        Checks.tape(x, bytes);
        int before = x.status(5);
        due(what, x.on(), false);
        due(what + ": refused", x.status(5), before + 1);
        due(what + ": the tape goes", x.end(1), false);
    }

    private static void on() {
        edge(33, "The tape (it goes, refused or not) is AN IMAGE of this ROOM:");
        BelowThread x = amid(ROOM);
        on(x, Checks.image(0, 0, 6, 0, 0, 0));
        due("it went", x.end(1), false);
        refusedImage(x, "empty");
        edge(33, "true, all is as it tells, nothing can be undone;");
        on(Checks.in(EMPTY), Checks.image(0, 0, 9, 0, 0, 0));
        BelowThread z = amid(ROOM);
        due("ACTS", z.has(11), 3);
        on(z, Checks.image(3, 9, 9, 3, 2, 9999));
        dayIs(z, 3, 9, 3, 2, 9999, 0);
        on(z, Checks.image(3, 9, 9, 2, 3, 9999));
        dayIs(z, 3, 9, 2, 3, 9999, 0);
        due("lasts", Checks.imageOf(z)[2], 9);
        due("ACTS", z.has(11), 0);
        due("undo", z.undo(), false);
        due("SEEN stays", z.has(10), 2);
        on(z, Checks.image(1, 6, 6, 1, 1, 256));
        dayIs(z, 1, 6, 1, 1, 256, 1);
        due("lasts 6", z.glance(), 0);
        on(z, Checks.image(0, 0, 9, 0, 0, 0));
        dayIs(z, 0, 0, 0, 0, 0, 1);
        BelowThread y = amid(ROOM);
        edge(33, "false, refused (5), when it is none (no more SEAMS than there are,");
        on(x, Checks.image(3, 0, 9, 0, 0, 0));
        refusedImage(y, "4 of 3 SEAMS", Checks.image(4, 0, 9, 0, 0, 0));
        refusedImage(y, "255 of 3 SEAMS", Checks.image(255, 0, 9, 0, 0, 0));
        edge(33, "no more CHANGES, MENDED ones than these;");
        on(x, Checks.image(2, 0, 9, 2, 2, 0));
        refusedImage(y, "3 CHANGES of 2", Checks.image(2, 0, 9, 3, 0, 0));
        refusedImage(y, "3 MENDED ones of 2", Checks.image(2, 0, 9, 0, 3, 0));
        refusedImage(y, "1 CHANGE of none", Checks.image(0, 0, 9, 1, 0, 0));
        refusedImage(y, "1 MENDED one of none", Checks.image(0, 0, 9, 0, 1, 0));
        edge(33, "a LENGTH that there is, no more used;");
        on(x, Checks.image(2, 6, 6, 0, 0, 0));
        refusedImage(y, "7 of 6 used", Checks.image(2, 7, 6, 0, 0, 0));
        on(x, Checks.image(2, 9, 9, 0, 0, 0));
        refusedImage(y, "10 of 9 used", Checks.image(2, 10, 9, 0, 0, 0));
        for (int length : new int[] {0, 5, 7, 8, 10, 255}) {
            refusedImage(y, "no LENGTH " + length, Checks.image(2, 0, length, 0, 0, 0));
        }
        edge(33, "a cost of 9999 at most), or there is no room, all staying.");
        on(x, Checks.image(2, 0, 9, 0, 0, 9999));
        refusedImage(y, "10000", Checks.image(2, 0, 9, 0, 0, 10000));
        refusedImage(y, "65535", Checks.image(2, 0, 9, 0, 0, 65535));
        int[] good = Checks.image(2, 3, 9, 1, 1, 300);
        on(x, good);
        for (int k = 0; k < 8; k++) {
            int[] wrong = good.clone();
            wrong[k]++;
            refusedImage(y, "a wrong byte " + k, wrong);
        }
        refusedImage(y, "seven bytes", Arrays.copyOf(good, 7));
        refusedImage(y, "nine bytes", Arrays.copyOf(good, 9));
        refusedImage(y, "no byte");
        refusedImage(new BelowThread(), "no room", Checks.image(0, 0, 0, 0, 0, 0));
        refusedImage(new BelowThread(), "no room", good);
        alike("refused images", y, amid(ROOM));
    }

    private static void status() {
        edge(34, "How many were refused: 0 feed(), end(); 1 room(), see(); 2 sew(), glance(), sews(), anew(); 3 undo(); 4 seed(); 5 on().");
        int[] due = new int[6];
        BelowThread x = new BelowThread();
        refused(x, due, -1);
        x.end(1);
        refused(x, due, 0);
        x.room();
        refused(x, due, 1);
        x.see();
        refused(x, due, 1);
        x.sew(false);
        refused(x, due, 2);
        x.sew(true);
        refused(x, due, 2);
        x.glance();
        refused(x, due, 2);
        x.sews(0);
        refused(x, due, 2);
        x.anew();
        refused(x, due, 2);
        x.undo();
        refused(x, due, 3);
        x.seed(-1);
        refused(x, due, 4);
        x.on();
        refused(x, due, 5);
        for (int n = 0; n < 80; n++) {
            x.feed(0, 0, 0, 0, 0);
        }
        refused(x, due, -1);
        x.feed(0, 0, 0, 0, 0);
        refused(x, due, 0);
        // Neither what is answered by NONE or NOTHING alone, nor what is done, is a refusal.
        x.ask(0, 9);
        x.mean(0);
        x.fewest(0, 0);
        x.octet(9);
        x.fault(7);
        Checks.room(x, ROOM);
        x.anew();
        x.undo();
        x.seed(3);
        Checks.ask(x, 0, 9, "total");
        refused(x, due, -1);
        edge(34, "NONE for others.");
        for (int what : outside(0, 5)) {
            due("status(" + what + ")", x.status(what), NONE);
        }
    }

    /** One more of a kind was refused, and no other one. */
    private static void refused(BelowThread x, int[] due, int kind) {
        if (kind >= 0) {
            due[kind]++;
        }
        for (int what = 0; what < 6; what++) {
            due("status(" + what + ")", x.status(what), due[what]);
        }
    }
}
