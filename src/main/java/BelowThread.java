/**
 * The thread below runs out first: a room of seams told as a text, how long a bobbin lasts by chances,
 * what winding, mending and looking cost, the fewest bobbins, a day by a seed, and questions of a day.
 */
public final class BelowThread {
    public static final int NONE = -1;
    public static final long NOTHING = -1000000000000000L;

    private static final int TAPE_LIMIT = 1600;
    private static final int GREATEST = 99;
    private static final int DEAREST = 9999;
    private static final int LENGTH_LIMIT = 6;
    private static final int SEAM_LIMIT = 10;
    private static final int PLACE_LIMIT = 4;
    private static final int RULE_LIMIT = 4;
    private static final int STATEMENT_LIMIT = 60;
    private static final int NAME_LIMIT = 6;
    private static final int DIGIT_LIMIT = 4;
    private static final int OPEN_LIMIT = 6;
    private static final int SEEN_LIMIT = 20;
    private static final int UNDO_LIMIT = 20;
    private static final int CHANCE_SEAMS = 6;
    private static final int IMAGE_SIZE = 8;

    // The sewers; RULES is the first of the told ones. The last two are no sewers that one may name.
    private static final int FULL = 1;
    private static final int LOOK = 2;
    private static final int CHANCE = 3;
    private static final int RULES = 4;
    private static final int WITH_LOOKS = -2;
    private static final int NO_SEWER = -3;

    // What stands in a room's minutes, in the order of the words wind .. girls.
    private static final int WIND_COST = 0;
    private static final int MEND_COST = 1;
    private static final int LOOK_COST = 2;
    private static final int BATCH_COST = 3;
    private static final int AHEAD_COUNT = 4;
    private static final int GIRL_COUNT = 5;
    private static final int[] WITHOUT = {2, 9, 1, 9, 5, 1};
    private static final int[] LOWEST = {0, 0, 0, 0, 1, 1};
    private static final int[] HIGHEST = {99, 99, 99, 99, 9, 3};

    // Which calls a refusal is counted for.
    private static final int OF_TAPE = 0;
    private static final int OF_TEXT = 1;
    private static final int OF_ACT = 2;
    private static final int OF_UNDO = 3;
    private static final int OF_SEED = 4;
    private static final int OF_IMAGE = 5;

    // Words are known by their place in this list; the OWN WORDS are those ahead of "first".
    private static final String WORDS = "bobbin lasts odds seam takes shown anew rule when wind mend look batch ahead girls used rest number least most left changed mended yards or and not all min max first last often total ";
    private static final int W_BOBBIN = 0;
    private static final int W_LASTS = 1;
    private static final int W_ODDS = 2;
    private static final int W_SEAM = 3;
    private static final int W_TAKES = 4;
    private static final int W_SHOWN = 5;
    private static final int W_ANEW = 6;
    private static final int W_RULE = 7;
    private static final int W_WHEN = 8;
    private static final int W_WIND = 9;
    private static final int W_USED = 15;
    private static final int W_REST = 16;
    private static final int W_NUMBER = 17;
    private static final int W_LEAST = 18;
    private static final int W_MOST = 19;
    private static final int W_LEFT = 20;
    private static final int W_CHANGED = 21;
    private static final int W_MENDED = 22;
    private static final int W_YARDS = 23;
    private static final int W_OR = 24;
    private static final int W_AND = 25;
    private static final int W_NOT = 26;
    private static final int W_ALL = 27;
    private static final int W_MIN = 28;
    private static final int W_MAX = 29;
    private static final int W_FIRST = 30;
    private static final int W_LAST = 31;
    private static final int W_OFTEN = 32;
    private static final int W_TOTAL = 33;

    private static final int FAULT_FORM = 1;
    private static final int FAULT_NUMBER = 2;
    private static final int FAULT_NAME = 3;
    private static final int FAULT_OPEN = 4;
    private static final int FAULT_MANY = 5;

    // Kinds of tokens; a sign's kind is its byte. GLUED lacks the blank it needs, STOP comes behind a fault.
    private static final int T_WORD = 256;
    private static final int T_NUMBER = 257;
    private static final int T_END = 258;
    private static final int T_GLUED = 259;
    private static final int T_STOP = 260;

    // What a formula's step below 0 means; a step of 0 or more is the number itself.
    private static final int P_TAKES = -1;
    private static final int P_SHOWN = -2;
    private static final int P_USED = -3;
    private static final int P_REST = -4;
    private static final int P_NUMBER = -5;
    private static final int P_LEAST = -6;
    private static final int P_MOST = -7;
    private static final int P_LEFT = -8;
    private static final int P_CHANGED = -9;
    private static final int P_MENDED = -10;
    private static final int S_NOT = -11;
    private static final int S_YARDS = -12;
    private static final int S_ADD = -13;
    private static final int S_TAKE = -14;
    private static final int S_TIMES = -15;
    private static final int S_PARTED = -16;
    private static final int S_MIN = -17;
    private static final int S_MAX = -18;
    private static final int S_BELOW = -19;
    private static final int S_ABOVE = -20;
    private static final int S_EQUAL = -21;
    private static final int S_AND = -22;
    private static final int S_OR = -23;
    private static final int PART_COUNT = 10;
    private static final int STACK_LIMIT = 64;
    private static final int SUM_LIMIT = 1000000;

    private final int[] tape = new int[TAPE_LIMIT];
    private int tapeSize;
    private Room told = new Room();
    private Room spare = new Room();
    private final Reader reader = new Reader();
    private final Chances chances = new Chances();
    private final Course course = new Course();
    private final Plans plans = new Plans();
    private final Day today = new Day();
    private final int[] seen = new int[2 * SEEN_LIMIT];
    private int seenRows;
    private final int[] picture = new int[IMAGE_SIZE];
    private int pictureSize;
    private final int[] refused = new int[6];

    public BelowThread() {
        told.clear();
    }

    public int feed(int a, int b, int c, int d, int e) {
        if (tapeSize + 20 > TAPE_LIMIT) {
            return refuse(OF_TAPE);
        }
        append(a);
        append(b);
        append(c);
        append(d);
        append(e);
        return tapeSize;
    }

    private void append(int number) {
        for (int shift = 24; shift >= 0; shift -= 8) {
            if (tapeSize < tape.length) {
                tape[tapeSize] = (number >>> shift) & 255;
                tapeSize++;
            }
        }
    }

    private int refuse(int kind) {
        if (kind >= 0 && kind < refused.length) {
            refused[kind]++;
        }
        return NONE;
    }

    public boolean end(int n) {
        if (n < 0 || n > tapeSize) {
            refuse(OF_TAPE);
            return false;
        }
        tapeSize = n;
        return true;
    }

    public int room() {
        reader.readRoom(spare, tape, tapeSize);
        tapeSize = 0;
        if (reader.fault != 0) {
            return refuse(OF_TEXT);
        }
        Room before = told;
        told = spare;
        spare = before;
        chances.forget();
        plans.forget();
        today.enter(told);
        seenRows = 0;
        return told.statements;
    }

    public int fault(int what) {
        if (what == 0) {
            return reader.fault;
        }
        return what == 1 ? reader.place : NONE;
    }

    public int has(int what) {
        if (what >= 3 && what <= 8) {
            return told.minutes[what - 3];
        }
        switch (what) {
            case 0: return told.lengthCount;
            case 1: return told.seamCount;
            case 2: return told.ruleCount;
            case 9: return told.ahead[told.seamCount];
            case 10: return seenRows;
            case 11: return today.pastCount;
            default: return NONE;
        }
    }

    public int letter(int kind, int which, int k) {
        if (k < 0 || k >= NAME_LIMIT || which < 0) {
            return NONE;
        }
        if (kind == 0 && which < told.seamCount) {
            return told.letters[which * NAME_LIMIT + k];
        }
        if (kind == 1 && which < told.ruleCount) {
            return told.letters[(SEAM_LIMIT + which) * NAME_LIMIT + k];
        }
        return NONE;
    }

    public int bobbin(int length, int what) {
        if (length < 0 || length >= told.lengthCount) {
            return NONE;
        }
        if (what == 0) {
            return told.lengths[length];
        }
        return what == 1 ? told.odds[length] : NONE;
    }

    public int seam(int seam, int what) {
        if (seam < 0 || seam >= told.seamCount) {
            return NONE;
        }
        switch (what) {
            case 0: return told.takes[seam];
            case 1: return told.shows[seam];
            case 2: return told.placeCounts[seam];
            default: break;
        }
        if (what < 10 || what - 10 >= told.placeCounts[seam]) {
            return NONE;
        }
        return told.places[seam * PLACE_LIMIT + what - 10];
    }

    public int row(int sewer, int length, int seam, int what) {
        if (seam < 0 || seam >= told.seamCount || !follow(sewer, length)) {
            return NONE;
        }
        switch (what) {
            case 0: return course.used[seam];
            case 1: return course.changed[seam];
            case 2: return course.mended[seam];
            default: return NONE;
        }
    }

    public int judge(int sewer, int length, int what) {
        if (!follow(sewer, length)) {
            return NONE;
        }
        switch (what) {
            case 0: return course.firstMended;
            case 1: return course.changes;
            case 2: return course.mends;
            case 3: return course.cost;
            default: return NONE;
        }
    }

    /** Sews the day of a sewer by a told length in the course; false when there is no such day. */
    private boolean follow(int sewer, int length) {
        if (!told.knows(sewer) || !isLength(length)) {
            return false;
        }
        if (sewer == CHANCE) {
            chances.prepare(told, CHANCE);
        }
        course.run(told, chances, sewer, length);
        return true;
    }

    private static boolean isLength(int length) {
        return length >= 1 && length <= GREATEST;
    }

    private boolean weighs() {
        return told.statements > 0 && told.seamCount <= CHANCE_SEAMS;
    }

    public int mean(int sewer) {
        if (!weighs() || !told.knows(sewer)) {
            return NONE;
        }
        return Chances.thousandths(chances.expect(told, sewer));
    }

    public int when(int seam, int used) {
        if (!weighs() || seam < 0 || seam >= told.seamCount || used < 0 || used > GREATEST) {
            return NONE;
        }
        chances.prepare(told, CHANCE);
        return chances.turns(told, CHANCE, seam, used, 0) ? 1 : 0;
    }

    public int looks(int what) {
        if (!weighs() || what < 0 || what > 1) {
            return NONE;
        }
        long least = chances.expect(told, WITH_LOOKS);
        return Chances.thousandths(what == 0 ? least : chances.expect(told, CHANCE) - least);
    }

    public int rule() {
        if (!weighs()) {
            return NONE;
        }
        int best = NONE;
        long cheapest = 0;
        for (int rule = 0; rule < told.ruleCount; rule++) {
            long cost = chances.expect(told, RULES + rule);
            if (best == NONE || cost < cheapest) {
                best = rule;
                cheapest = cost;
            }
        }
        return best;
    }

    public int fewest(int length, int k) {
        if (!canPlan(length, k)) {
            return NONE;
        }
        plans.inOrder(told, length);
        return k == NONE ? plans.orderCount : plans.begins[k];
    }

    public int free(int length, int k) {
        if (!canPlan(length, k)) {
            return NONE;
        }
        plans.anyOrder(told, length);
        return k == NONE ? plans.packCount : plans.bobbinOf[k];
    }

    public int hidden(int length, int what) {
        if (told.statements == 0 || !isLength(length)) {
            return NONE;
        }
        plans.hide(told, length);
        if (plans.startCount < 0) {
            return NONE;
        }
        if (what == 0) {
            return told.seamCount == 0 ? 0 : plans.startCount + 1;
        }
        if (what == 1) {
            return plans.startsShown;
        }
        return what >= 10 && what - 10 < plans.startCount ? plans.starts[what - 10] : NONE;
    }

    public int several(int length, int k) {
        if (!canPlan(length, k)) {
            return NONE;
        }
        plans.share(told, length);
        return k == NONE ? plans.soonest : plans.girlOf[k];
    }

    /** Whether seams can be sewn whole from bobbins of a length, and k is NONE or one of them. */
    private boolean canPlan(int length, int k) {
        return told.statements > 0 && isLength(length) && told.longest() <= length
                && k >= NONE && k < told.seamCount;
    }

    public int wound(int n) {
        if (n < 0 || n > GREATEST) {
            return NONE;
        }
        int ahead = Math.max(1, told.minutes[AHEAD_COUNT]);
        int best = n * told.minutes[WIND_COST];
        int batches = 0;
        for (int left = n; left > 0; left -= ahead) {
            batches++;
            int singles = Math.max(0, left - ahead);
            best = Math.min(best, batches * told.minutes[BATCH_COST] + singles * told.minutes[WIND_COST]);
        }
        return best;
    }

    public int day(int what) {
        switch (what) {
            case 0: return today.sewn;
            case 1: return today.used;
            case 2: return today.changes;
            case 3: return today.mends;
            case 4: return today.cost;
            case 5: return today.sewn < told.seamCount ? 1 : 0;
            default: return NONE;
        }
    }

    public int sew(boolean change) {
        if (today.sewn >= told.seamCount || change && today.used == 0) {
            return refuse(OF_ACT);
        }
        int mends = today.mends;
        today.keep();
        today.pay(today.stitch(told, change));
        return today.mends - mends;
    }

    public int glance() {
        if (today.sewn >= told.seamCount) {
            return refuse(OF_ACT);
        }
        today.keep();
        today.pay(told.minutes[LOOK_COST]);
        return today.used + told.takes[today.sewn] <= today.lasts ? 1 : 0;
    }

    public int sews(int sewer) {
        if (today.sewn >= told.seamCount || !told.knows(sewer)) {
            return refuse(OF_ACT);
        }
        if (sewer == CHANCE) {
            chances.prepare(told, CHANCE);
        }
        today.keep();
        int cost = 0;
        for (int seam = today.sewn; seam < told.seamCount; seam++) {
            cost += told.lookCost(sewer, today.used);
            boolean change = chances.turns(told, sewer, seam, today.used, today.lasts);
            cost += today.stitch(told, change);
        }
        today.pay(cost);
        return cost;
    }

    public int anew() {
        if (told.statements == 0) {
            return refuse(OF_ACT);
        }
        today.keep();
        today.restart(today.draw(told));
        return today.lasts;
    }

    public boolean undo() {
        if (today.pastCount == 0) {
            refuse(OF_UNDO);
            return false;
        }
        today.back();
        return true;
    }

    public boolean seed(int seed) {
        if (seed < 0) {
            refuse(OF_SEED);
            return false;
        }
        today.seed = seed;
        return true;
    }

    public int see() {
        int size = tapeSize;
        tapeSize = 0;
        if (!tellsRows(size)) {
            return refuse(OF_TEXT);
        }
        seenRows = size / 2;
        System.arraycopy(tape, 0, seen, 0, size);
        return seenRows;
    }

    private boolean tellsRows(int size) {
        if (size < 2 || size > 2 * SEEN_LIMIT || size % 2 != 0) {
            return false;
        }
        for (int at = 0; at < size; at += 2) {
            if (tape[at] >= told.seamCount || tape[at + 1] > 1) {
                return false;
            }
        }
        return true;
    }

    public int fits(int what) {
        if (seenRows == 0 || what < 0 || what > 2) {
            return NONE;
        }
        int count = 0;
        int least = NONE;
        int greatest = NONE;
        for (int length = Math.max(1, told.longest()); length <= GREATEST; length++) {
            if (agrees(length)) {
                count++;
                greatest = length;
                least = least == NONE ? length : least;
            }
        }
        if (what == 0) {
            return count;
        }
        return what == 1 ? least : greatest;
    }

    private boolean agrees(int length) {
        plans.inOrder(told, length);
        for (int at = 0; at < 2 * seenRows; at += 2) {
            if (plans.begins[seen[at]] != seen[at + 1]) {
                return false;
            }
        }
        return true;
    }

    public long ask(int sewer, int length) {
        int size = tapeSize;
        tapeSize = 0;
        if (!told.knows(sewer) || !isLength(length)) {
            return NOTHING;
        }
        int asked = reader.readQuestion(tape, size);
        if (reader.fault != 0 || !follow(sewer, length)) {
            return NOTHING;
        }
        boolean test = asked == W_FIRST || asked == W_LAST || asked == W_OFTEN;
        long answer = asked == W_FIRST || asked == W_LAST ? NONE : 0;
        for (int seam = 0; seam < told.seamCount; seam++) {
            int worth = reader.question.worth(0, reader.question.size, course.partsOf(told, seam), told);
            if (test) {
                answer = worth == 0 ? answer : counted(asked, answer, seam);
            } else {
                answer = seam == 0 ? worth : gathered(asked, answer, worth);
            }
        }
        return answer;
    }

    private static long counted(int asked, long answer, int seam) {
        if (asked == W_OFTEN) {
            return answer + 1;
        }
        return asked == W_FIRST && answer != NONE ? answer : seam;
    }

    private static long gathered(int asked, long answer, int worth) {
        if (asked == W_TOTAL) {
            return answer + worth;
        }
        return asked == W_MOST ? Math.max(answer, (long) worth) : Math.min(answer, (long) worth);
    }

    public int image() {
        picture[0] = today.sewn;
        picture[1] = today.used;
        picture[2] = today.lasts;
        picture[3] = today.changes;
        picture[4] = today.mends;
        picture[5] = today.cost / 256;
        picture[6] = today.cost % 256;
        picture[7] = checkOf(picture);
        pictureSize = IMAGE_SIZE;
        return pictureSize;
    }

    /** The last byte of an image, by those ahead of it. */
    private static int checkOf(int[] bytes) {
        int check = 199;
        for (int k = 0; k < IMAGE_SIZE - 1 && k < bytes.length; k++) {
            check = (3 * check + bytes[k]) % 251;
        }
        return check;
    }

    public int octet(int k) {
        return k >= 0 && k < pictureSize ? picture[k] : NONE;
    }

    public boolean on() {
        int size = tapeSize;
        tapeSize = 0;
        if (told.statements == 0 || size != IMAGE_SIZE || !tellsDay()) {
            refuse(OF_IMAGE);
            return false;
        }
        today.sewn = tape[0];
        today.used = tape[1];
        today.lasts = tape[2];
        today.changes = tape[3];
        today.mends = tape[4];
        today.cost = 256 * tape[5] + tape[6];
        today.pastCount = 0;
        return true;
    }

    private boolean tellsDay() {
        return tape[0] <= told.seamCount && tape[3] <= tape[0] && tape[4] <= tape[0]
                && told.hasLength(tape[2]) && tape[1] <= tape[2]
                && 256 * tape[5] + tape[6] <= DEAREST && tape[7] == checkOf(tape);
    }

    public int status(int what) {
        return what >= 0 && what < refused.length ? refused[what] : NONE;
    }

    /** A room as it was told. The rules of all share one formula, each from its own step on. */
    private static final class Room {
        private final int[] lengths = new int[LENGTH_LIMIT];
        private final int[] odds = new int[LENGTH_LIMIT];
        private int lengthCount;
        private final int[] takes = new int[SEAM_LIMIT];
        private final int[] shows = new int[SEAM_LIMIT];
        private final int[] places = new int[SEAM_LIMIT * PLACE_LIMIT];
        private final int[] placeCounts = new int[SEAM_LIMIT];
        private final int[] ahead = new int[SEAM_LIMIT + 1];
        private int seamCount;
        private final Formula tests = new Formula();
        private final int[] testFrom = new int[RULE_LIMIT + 1];
        private int ruleCount;
        private final int[] letters = new int[(SEAM_LIMIT + RULE_LIMIT) * NAME_LIMIT];
        private final int[] minutes = new int[6];
        private final int[] parts = new int[PART_COUNT];
        private int statements;

        private void clear() {
            lengthCount = 0;
            seamCount = 0;
            ruleCount = 0;
            statements = 0;
            tests.size = 0;
            System.arraycopy(WITHOUT, 0, minutes, 0, minutes.length);
        }

        private void addLength(int yards, int chance) {
            if (lengthCount < LENGTH_LIMIT) {
                lengths[lengthCount] = yards;
                odds[lengthCount] = chance;
                lengthCount++;
            }
        }

        private void addSeam(int yards, int shown, int placeCount) {
            if (seamCount < SEAM_LIMIT) {
                takes[seamCount] = yards;
                shows[seamCount] = shown;
                placeCounts[seamCount] = placeCount;
                ahead[seamCount + 1] = ahead[seamCount] + yards;
                seamCount++;
            }
        }

        private void addRule() {
            if (ruleCount < RULE_LIMIT) {
                ruleCount++;
                testFrom[ruleCount] = tests.size;
            }
        }

        /** Whether the name in a slot (rules stand behind all seams) is that of a seam or rule told so far. */
        private boolean isNamed(int slot) {
            for (int other = 0; other < SEAM_LIMIT + RULE_LIMIT; other++) {
                boolean there = other < SEAM_LIMIT ? other < seamCount : other - SEAM_LIMIT < ruleCount;
                if (there && sameLetters(slot, other)) {
                    return true;
                }
            }
            return false;
        }

        private boolean sameLetters(int slot, int other) {
            for (int k = 0; k < NAME_LIMIT; k++) {
                if (letters[slot * NAME_LIMIT + k] != letters[other * NAME_LIMIT + k]) {
                    return false;
                }
            }
            return true;
        }

        private boolean hasLength(int yards) {
            for (int length = 0; length < lengthCount; length++) {
                if (lengths[length] == yards) {
                    return true;
                }
            }
            return false;
        }

        private boolean knows(int sewer) {
            return statements > 0 && sewer >= 0 && sewer < RULES + ruleCount
                    && (sewer != CHANCE || seamCount <= CHANCE_SEAMS);
        }

        /** The most yards that a seam takes. */
        private int longest() {
            int most = 0;
            for (int seam = 0; seam < seamCount; seam++) {
                most = Math.max(most, takes[seam]);
            }
            return most;
        }

        private int leastLength() {
            int least = GREATEST;
            for (int length = 0; length < lengthCount; length++) {
                least = Math.min(least, lengths[length]);
            }
            return least;
        }

        private int greatestLength() {
            int greatest = 0;
            for (int length = 0; length < lengthCount; length++) {
                greatest = Math.max(greatest, lengths[length]);
            }
            return greatest;
        }

        /** The odds, of 100, by which a fresh bobbin lasts so many yards. */
        private int oddsOf(int yards) {
            int sum = 0;
            for (int length = 0; length < lengthCount; length++) {
                sum += lengths[length] >= yards ? odds[length] : 0;
            }
            return sum;
        }

        private int lengthBy(int draw) {
            int sum = 0;
            for (int length = 0; length < lengthCount; length++) {
                sum += odds[length];
                if (sum > draw) {
                    return lengths[length];
                }
            }
            return 0;
        }

        private int lookCost(int sewer, int used) {
            return sewer == LOOK && used > 0 ? minutes[LOOK_COST] : 0;
        }

        /** Whether a sewer that neither looks nor weighs changes ahead of a seam. */
        private boolean wants(int sewer, int seam, int used) {
            if (used == 0 || seam < 0 || seam >= seamCount) {
                return false;
            }
            if (sewer == FULL) {
                return used + takes[seam] > leastLength();
            }
            int rule = sewer - RULES;
            if (rule < 0 || rule >= ruleCount) {
                return false;
            }
            parts[-1 - P_TAKES] = takes[seam];
            parts[-1 - P_SHOWN] = shows[seam];
            parts[-1 - P_USED] = used;
            parts[-1 - P_REST] = ahead[seamCount] - ahead[seam];
            parts[-1 - P_NUMBER] = seam;
            parts[-1 - P_LEAST] = leastLength();
            parts[-1 - P_MOST] = greatestLength();
            return tests.worth(testFrom[rule], testFrom[rule + 1], parts, this) != 0;
        }
    }

    /** Tests and sums as steps for a stack: what each joins stands ahead of it. */
    private static final class Formula {
        private final int[] steps = new int[TAPE_LIMIT];
        private final int[] stack = new int[STACK_LIMIT];
        private int size;

        private void put(int step) {
            if (size < steps.length) {
                steps[size] = step;
                size++;
            }
        }

        private int worth(int from, int to, int[] parts, Room room) {
            int top = 0;
            for (int at = Math.max(0, from); at < to && at < steps.length; at++) {
                int step = steps[at];
                boolean joins = step <= S_ADD;
                boolean turns = step == S_NOT || step == S_YARDS;
                int second = (joins || turns) && top > 0 ? stack[--top] : 0;
                int first = joins && top > 0 ? stack[--top] : 0;
                if (top >= stack.length) {
                    return 0;
                }
                if (joins) {
                    long all = joined(step, first, second);
                    stack[top] = (int) Math.max(-SUM_LIMIT, Math.min(SUM_LIMIT, all));
                } else if (turns) {
                    stack[top] = turned(step, second, room);
                } else {
                    int part = -1 - step;
                    stack[top] = step >= 0 ? step : part < parts.length ? parts[part] : 0;
                }
                top++;
            }
            return top > 0 ? stack[top - 1] : 0;
        }

        private static int turned(int step, int worth, Room room) {
            if (step == S_NOT) {
                return worth == 0 ? 1 : 0;
            }
            return worth >= 0 && worth < room.seamCount ? room.takes[worth] : 0;
        }

        private static long joined(int step, long first, long second) {
            switch (step) {
                case S_ADD: return first + second;
                case S_TAKE: return first - second;
                case S_TIMES: return first * second;
                case S_PARTED: return second == 0 ? 0 : Math.floorDiv(first, second);
                case S_MIN: return Math.min(first, second);
                case S_MAX: return Math.max(first, second);
                case S_BELOW: return first < second ? 1 : 0;
                case S_ABOVE: return first > second ? 1 : 0;
                case S_EQUAL: return first == second ? 1 : 0;
                case S_AND: return first & second;
                case S_OR: return first | second;
                default: return 0;
            }
        }
    }

    /** Reads rooms and questions; behind the first fault nothing matches any more, so all reading ends. */
    private static final class Reader {
        private int[] text = new int[0];
        private int length;
        private int at;
        private int start;
        private int kind;
        private int word;
        private int worth;
        private int fault;
        private int place = NONE;
        private boolean asks;
        private final Formula question = new Formula();
        private Formula formula = question;

        private void begin(Formula into, int[] bytes, int size) {
            text = bytes;
            length = Math.min(size, bytes.length);
            at = 0;
            kind = T_STOP;
            fault = 0;
            place = NONE;
            asks = into == question;
            formula = into;
            into.size = 0;
            advance();
        }

        private void fail(int what, int where) {
            if (fault == 0) {
                fault = what;
                place = where;
            }
            kind = T_STOP;
        }

        /** Goes to the next word, number or sign. */
        private void advance() {
            if (fault != 0) {
                return;
            }
            boolean spaced = kind != T_WORD && kind != T_NUMBER;
            while (at < length && (text[at] == 10 || text[at] == 32)) {
                at++;
                spaced = true;
            }
            start = at;
            word = NONE;
            if (at >= length) {
                kind = T_END;
                return;
            }
            int sign = text[at];
            at++;
            if (sign >= 'a' && sign <= 'z') {
                while (at < length && text[at] >= 'a' && text[at] <= 'z') {
                    at++;
                }
                kind = spaced ? T_WORD : T_GLUED;
                word = wordBetween(start, at);
            } else if (sign >= '0' && sign <= '9') {
                worth = sign - '0';
                while (at < length && text[at] >= '0' && text[at] <= '9') {
                    worth = at - start < DIGIT_LIMIT ? 10 * worth + text[at] - '0' : worth;
                    at++;
                }
                kind = spaced ? T_NUMBER : T_GLUED;
            } else {
                kind = sign;
            }
        }

        /** The place in WORDS of what stands in the text there; NONE if it is none of them. */
        private int wordBetween(int from, int to) {
            int which = 0;
            int behind = from;
            boolean same = true;
            for (int k = 0; k < WORDS.length(); k++) {
                char letter = WORDS.charAt(k);
                if (letter != ' ') {
                    same = same && behind < to && behind < length && text[behind] == letter;
                    behind++;
                } else if (same && behind == to) {
                    return which;
                } else {
                    which++;
                    behind = from;
                    same = true;
                }
            }
            return NONE;
        }

        private boolean isWord(int which) {
            return kind == T_WORD && word == which;
        }

        private void expect(int which) {
            if (isWord(which)) {
                advance();
            } else {
                fail(FAULT_FORM, start);
            }
        }

        private void expectSign(int sign) {
            if (kind == sign) {
                advance();
            } else {
                fail(FAULT_FORM, start);
            }
        }

        private int number(int least, int most) {
            int read = worth;
            if (kind != T_NUMBER) {
                fail(FAULT_FORM, start);
            } else if (at - start > DIGIT_LIMIT) {
                fail(FAULT_FORM, start + DIGIT_LIMIT);
            } else if (read < least || read > most) {
                fail(FAULT_NUMBER, start);
            } else {
                advance();
            }
            return read;
        }

        private void readRoom(Room room, int[] bytes, int size) {
            room.clear();
            begin(room.tests, bytes, size);
            if (kind == T_END) {
                fail(FAULT_FORM, start);
            }
            for (int n = 0; n <= STATEMENT_LIMIT && fault == 0 && kind != T_END; n++) {
                int first = kind == T_WORD ? word : NONE;
                if (n == STATEMENT_LIMIT) {
                    fail(FAULT_MANY, start);
                } else if ((n == 0) != (first == W_BOBBIN)) {
                    fail(FAULT_FORM, start);
                } else if (first == W_BOBBIN) {
                    tellLengths(room);
                } else if (first == W_SEAM) {
                    tellSeam(room);
                } else if (first == W_RULE) {
                    tellRule(room);
                } else {
                    tellMinutes(room, first);
                }
                expectSign(';');
                room.statements++;
            }
        }

        private void tellMinutes(Room room, int first) {
            int which = first - W_WIND;
            if (which < 0 || which >= room.minutes.length) {
                fail(FAULT_FORM, start);
                return;
            }
            advance();
            room.minutes[which] = number(LOWEST[which], HIGHEST[which]);
        }

        private void tellLengths(Room room) {
            advance();
            int sum = 0;
            int oddsAt = start;
            for (int n = 0; n < LENGTH_LIMIT && (n == 0 || isWord(W_LASTS)); n++) {
                expect(W_LASTS);
                int yardsAt = start;
                int yards = number(1, GREATEST);
                if (room.hasLength(yards)) {
                    fail(FAULT_NUMBER, yardsAt);
                }
                expect(W_ODDS);
                oddsAt = start;
                int chance = number(1, 100 - sum);
                sum += chance;
                room.addLength(yards, chance);
            }
            if (isWord(W_LASTS)) {
                fail(FAULT_MANY, start);
            }
            // No "lasts" goes on from here (one that lacks its blank neither), so these odds are the last ones.
            if (sum < 100) {
                fail(FAULT_NUMBER, oddsAt);
            }
        }

        private void tellSeam(Room room) {
            if (room.seamCount >= SEAM_LIMIT) {
                fail(FAULT_MANY, start);
                return;
            }
            advance();
            name(room, room.seamCount);
            expect(W_TAKES);
            int yards = number(1, GREATEST);
            int shown = isWord(W_SHOWN) ? 1 : 0;
            if (shown == 1) {
                advance();
            }
            int places = isWord(W_ANEW) ? tellPlaces(room, yards) : 0;
            room.addSeam(yards, shown, places);
        }

        private int tellPlaces(Room room, int yards) {
            advance();
            int count = 0;
            int before = 0;
            for (int n = 0; n < PLACE_LIMIT && (n == 0 || kind == T_NUMBER); n++) {
                before = number(before + 1, yards - 1);
                room.places[room.seamCount * PLACE_LIMIT + n] = before;
                count++;
            }
            if (kind == T_NUMBER) {
                fail(FAULT_MANY, start);
            }
            return count;
        }

        private void tellRule(Room room) {
            if (room.ruleCount >= RULE_LIMIT) {
                fail(FAULT_MANY, start);
                return;
            }
            advance();
            name(room, SEAM_LIMIT + room.ruleCount);
            expect(W_WHEN);
            test(0);
            room.addRule();
        }

        /** Puts a name into its slot of the room's letters. */
        private void name(Room room, int slot) {
            if (kind != T_WORD || word >= 0 && word < W_FIRST) {
                fail(FAULT_FORM, start);
                return;
            }
            if (at - start > NAME_LIMIT) {
                fail(FAULT_FORM, start + NAME_LIMIT);
                return;
            }
            for (int k = 0; k < NAME_LIMIT; k++) {
                room.letters[slot * NAME_LIMIT + k] = start + k < at ? text[start + k] - 'a' + 1 : 0;
            }
            if (room.isNamed(slot)) {
                fail(FAULT_NAME, start);
            } else {
                advance();
            }
        }

        /** Reads a question into its formula: its first word. */
        private int readQuestion(int[] bytes, int size) {
            begin(question, bytes, size);
            int asked = kind == T_WORD ? word : NONE;
            if (asked == W_FIRST || asked == W_LAST || asked == W_OFTEN) {
                advance();
                test(0);
            } else if (asked == W_TOTAL || asked == W_MOST || asked == W_LEAST) {
                advance();
                sum(0);
            } else {
                fail(FAULT_FORM, start);
            }
            if (kind != T_END) {
                fail(FAULT_FORM, start);
            }
            return asked;
        }

        // From here on the argument is how many of ( [ not yards are open; that keeps the depth low.

        private void test(int open) {
            both(open);
            for (int n = 0; n < TAPE_LIMIT && isWord(W_OR); n++) {
                advance();
                both(open);
                formula.put(S_OR);
            }
        }

        private void both(int open) {
            fact(open);
            for (int n = 0; n < TAPE_LIMIT && isWord(W_AND); n++) {
                advance();
                fact(open);
                formula.put(S_AND);
            }
        }

        private void fact(int open) {
            if (isWord(W_NOT)) {
                enter(open);
                if (open < OPEN_LIMIT) {
                    fact(open + 1);
                    formula.put(S_NOT);
                }
            } else if (kind == '[') {
                enter(open);
                if (open < OPEN_LIMIT) {
                    test(open + 1);
                    expectSign(']');
                }
            } else if (isWord(W_ALL)) {
                advance();
                formula.put(1);
            } else {
                sum(open);
                int step = kind == '<' ? S_BELOW : kind == '>' ? S_ABOVE : S_EQUAL;
                if (kind != '<' && kind != '>' && kind != '=') {
                    fail(FAULT_FORM, start);
                    return;
                }
                advance();
                sum(open);
                formula.put(step);
            }
        }

        /** Goes behind what opens, unless one too many would be open. */
        private void enter(int open) {
            if (open < OPEN_LIMIT) {
                advance();
            } else {
                fail(FAULT_OPEN, start);
            }
        }

        private void sum(int open) {
            product(open);
            for (int n = 0; n < TAPE_LIMIT && (kind == '+' || kind == '-'); n++) {
                int step = kind == '+' ? S_ADD : S_TAKE;
                advance();
                product(open);
                formula.put(step);
            }
        }

        private void product(int open) {
            part(open);
            for (int n = 0; n < TAPE_LIMIT && (kind == '*' || kind == '/'); n++) {
                int step = kind == '*' ? S_TIMES : S_PARTED;
                advance();
                part(open);
                formula.put(step);
            }
        }

        private void part(int open) {
            if (kind == T_NUMBER) {
                formula.put(number(0, SUM_LIMIT));
            } else if (kind == '(') {
                enter(open);
                if (open < OPEN_LIMIT) {
                    sum(open + 1);
                    expectSign(')');
                }
            } else if (isWord(W_MIN) || isWord(W_MAX)) {
                pair(open, word == W_MIN ? S_MIN : S_MAX);
            } else if (asks && isWord(W_YARDS)) {
                enter(open);
                if (open < OPEN_LIMIT) {
                    part(open + 1);
                    formula.put(S_YARDS);
                }
            } else {
                namedPart();
            }
        }

        private void pair(int open, int step) {
            advance();
            if (kind != '(') {
                fail(FAULT_FORM, start);
                return;
            }
            enter(open);
            if (open < OPEN_LIMIT) {
                sum(open + 1);
                expectSign(',');
                sum(open + 1);
                expectSign(')');
                formula.put(step);
            }
        }

        private void namedPart() {
            int step = kind == T_WORD ? stepOf(word, asks) : 0;
            if (step == 0) {
                fail(FAULT_FORM, start);
                return;
            }
            formula.put(step);
            advance();
        }

        /** The step of a part by its word, 0 when rules (or questions) have none such. */
        private static int stepOf(int word, boolean asks) {
            switch (word) {
                case W_TAKES: return P_TAKES;
                case W_SHOWN: return P_SHOWN;
                case W_USED: return P_USED;
                case W_NUMBER: return P_NUMBER;
                case W_REST: return asks ? 0 : P_REST;
                case W_LEAST: return asks ? 0 : P_LEAST;
                case W_MOST: return asks ? 0 : P_MOST;
                case W_LEFT: return asks ? P_LEFT : 0;
                case W_CHANGED: return asks ? P_CHANGED : 0;
                case W_MENDED: return asks ? P_MENDED : 0;
                default: return 0;
            }
        }
    }

    /**
     * What days cost on the mean, exactly. All costs are counted in 10^-12 of a minute: each of at most six
     * bobbins begun brings a divisor of 100, and what is weighted by odds (of 100) still fits a long.
     */
    private static final class Chances {
        private static final long MINUTE = 1000000000000L;

        private final long[] fresh = new long[CHANCE_SEAMS + 1];
        private int prepared = NO_SEWER;

        private void forget() {
            prepared = NO_SEWER;
        }

        private static int thousandths(long cost) {
            return (int) (cost / (MINUTE / 1000));
        }

        private long expect(Room room, int sewer) {
            prepare(room, sewer);
            return fresh[0];
        }

        /** Finds what the rest costs from each seam on, begun on a fresh bobbin, by a sewer. */
        private void prepare(Room room, int sewer) {
            int seams = room.seamCount;
            if (prepared == sewer || seams > CHANCE_SEAMS) {
                return;
            }
            fresh[seams] = 0;
            for (int seam = seams - 1; seam >= 0; seam--) {
                fresh[seam] = weigh(room, sewer, seam, 0) / 100;
            }
            prepared = sewer;
        }

        /**
         * What the rest costs from a seam on with so much used, times the odds that a bobbin lasts that long:
         * so weighted, no odds ever stand below a line, and what can't be weighs nothing.
         */
        private long weigh(Room room, int sewer, int seam, int used) {
            long rest = 0;
            for (int k = room.seamCount - 1; k >= seam; k--) {
                int here = used + room.ahead[k] - room.ahead[seam];
                long odds = room.oddsOf(here);
                long runOut = odds - room.oddsOf(here + room.takes[k]);
                long stay = rest + runOut * mended(room, k);
                if (here == 0) {
                    rest = stay;
                    continue;
                }
                long change = odds * changed(room, k);
                long look = odds * room.minutes[LOOK_COST] * MINUTE + rest + runOut * changed(room, k);
                if (sewer == LOOK) {
                    rest = look;
                } else if (sewer == CHANCE) {
                    rest = Math.min(stay, change);
                } else if (sewer == WITH_LOOKS) {
                    rest = Math.min(look, Math.min(stay, change));
                } else {
                    rest = room.wants(sewer, k, here) ? change : stay;
                }
            }
            return rest;
        }

        /** What the rest costs, if the bobbin runs out in a seam. */
        private long mended(Room room, int seam) {
            return (room.minutes[MEND_COST] + room.minutes[WIND_COST]) * MINUTE + fresh[seam + 1];
        }

        /** What the rest costs, if the bobbin is changed ahead of a seam. */
        private long changed(Room room, int seam) {
            return room.minutes[WIND_COST] * MINUTE + fresh[seam];
        }

        /** Whether a sewer changes ahead of a seam; for CHANCE what it weighs is prepared. */
        private boolean turns(Room room, int sewer, int seam, int used, int lasts) {
            if (used == 0 || seam < 0 || seam >= room.seamCount) {
                return false;
            }
            int behind = used + room.takes[seam];
            if (sewer == LOOK) {
                return behind > lasts;
            }
            if (sewer != CHANCE) {
                return room.wants(sewer, seam, used);
            }
            if (room.seamCount > CHANCE_SEAMS) {
                return false;
            }
            long odds = room.oddsOf(used);
            if (odds == 0) {
                return changed(room, seam) < mended(room, seam);
            }
            long runOut = odds - room.oddsOf(behind);
            long stay = weigh(room, CHANCE, seam + 1, behind) + runOut * mended(room, seam);
            return odds * changed(room, seam) < stay;
        }
    }

    /** A day of a sewer, each bobbin lasting a told length. */
    private static final class Course {
        private final int[] used = new int[SEAM_LIMIT];
        private final int[] changed = new int[SEAM_LIMIT];
        private final int[] mended = new int[SEAM_LIMIT];
        private final int[] parts = new int[PART_COUNT];
        private int length;
        private int firstMended;
        private int changes;
        private int mends;
        private int cost;

        private void run(Room room, Chances chances, int sewer, int lasts) {
            length = lasts;
            firstMended = NONE;
            changes = 0;
            mends = 0;
            cost = 0;
            int now = 0;
            for (int seam = 0; seam < room.seamCount; seam++) {
                cost += room.lookCost(sewer, now);
                boolean change = chances.turns(room, sewer, seam, now, lasts);
                now = change ? 0 : now;
                used[seam] = now;
                now += room.takes[seam];
                boolean mend = now > lasts;
                now = mend ? 0 : now;
                note(room, seam, change, mend);
            }
        }

        private void note(Room room, int seam, boolean change, boolean mend) {
            changed[seam] = change ? 1 : 0;
            mended[seam] = mend ? 1 : 0;
            changes += changed[seam];
            mends += mended[seam];
            cost += (changed[seam] + mended[seam]) * room.minutes[WIND_COST] + mended[seam] * room.minutes[MEND_COST];
            if (mend && firstMended == NONE) {
                firstMended = seam;
            }
        }

        /** What a question's parts are at a seam. */
        private int[] partsOf(Room room, int seam) {
            if (seam >= 0 && seam < room.seamCount) {
                parts[-1 - P_TAKES] = room.takes[seam];
                parts[-1 - P_SHOWN] = room.shows[seam];
                parts[-1 - P_USED] = used[seam];
                parts[-1 - P_NUMBER] = seam;
                parts[-1 - P_LEFT] = length - used[seam];
                parts[-1 - P_CHANGED] = changed[seam];
                parts[-1 - P_MENDED] = mended[seam];
            }
            return parts;
        }
    }

    /** The fewest bobbins. What a search found is kept until another length, or another room, is asked for. */
    private static final class Plans {
        private static final int SPOT_LIMIT = SEAM_LIMIT * (PLACE_LIMIT + 1);

        private final int[] begins = new int[SEAM_LIMIT];
        private int orderCount;

        private final int[] bobbinOf = new int[SEAM_LIMIT];
        private final int[] loads = new int[SEAM_LIMIT];
        private int packCount;
        private int packedFor;

        private final int[] girlOf = new int[SEAM_LIMIT];
        private final int[] tried = new int[SEAM_LIMIT];
        private final int[] times = new int[3];
        private final int[] onBobbin = new int[3];
        private int soonest;
        private int sharedFor;

        private final int[] spots = new int[SPOT_LIMIT];
        private final int[] spotNames = new int[SPOT_LIMIT];
        private final int[] costs = new int[SPOT_LIMIT];
        private final int[] nexts = new int[SPOT_LIMIT];
        private final int[] starts = new int[SPOT_LIMIT];
        private int startCount;
        private int startsShown;

        private void forget() {
            packedFor = 0;
            sharedFor = 0;
        }

        private void inOrder(Room room, int length) {
            int left = 0;
            orderCount = 0;
            for (int seam = 0; seam < room.seamCount; seam++) {
                begins[seam] = room.takes[seam] > left ? 1 : 0;
                orderCount += begins[seam];
                left = (begins[seam] == 1 ? length : left) - room.takes[seam];
            }
        }

        private void anyOrder(Room room, int length) {
            if (packedFor == length) {
                return;
            }
            packedFor = length;
            packCount = (room.ahead[room.seamCount] + length - 1) / Math.max(1, length);
            for (int n = 0; n < SEAM_LIMIT; n++) {
                for (int k = 0; k < SEAM_LIMIT; k++) {
                    loads[k] = 0;
                }
                if (packs(room, length, 0)) {
                    return;
                }
                packCount++;
            }
        }

        /** Whether the seams from one on go into packCount bobbins; the first way by seams is found first. */
        private boolean packs(Room room, int length, int seam) {
            if (seam >= room.seamCount) {
                return true;
            }
            int takes = room.takes[seam];
            for (int k = 0; k < packCount && k < SEAM_LIMIT; k++) {
                if (loads[k] + takes <= length && !isLoadAhead(k)) {
                    loads[k] += takes;
                    bobbinOf[seam] = k;
                    if (packs(room, length, seam + 1)) {
                        return true;
                    }
                    loads[k] -= takes;
                }
            }
            return false;
        }

        /** Where one ahead is loaded alike (empty ones are), it was tried and it failed. */
        private boolean isLoadAhead(int bobbin) {
            for (int k = 0; k < bobbin; k++) {
                if (loads[k] == loads[bobbin]) {
                    return true;
                }
            }
            return false;
        }

        private void share(Room room, int length) {
            if (sharedFor == length) {
                return;
            }
            sharedFor = length;
            soonest = Integer.MAX_VALUE;
            giveOut(room, length, 0, 0);
        }

        /** Tries all ways to give out the seams from one on: the first of the soonest ones is kept. */
        private void giveOut(Room room, int length, int seam, int busy) {
            if (seam >= room.seamCount) {
                int last = Math.max(times[0], Math.max(times[1], times[2]));
                if (last < soonest) {
                    soonest = last;
                    System.arraycopy(tried, 0, girlOf, 0, SEAM_LIMIT);
                }
                return;
            }
            int takes = room.takes[seam];
            // Idle girls are alike: only the first of them is tried.
            for (int girl = 0; girl <= busy && girl < room.minutes[GIRL_COUNT] && girl < times.length; girl++) {
                int time = times[girl];
                int used = onBobbin[girl];
                boolean winds = time > 0 && used + takes > length;
                times[girl] = time + takes + (winds ? room.minutes[WIND_COST] : 0);
                onBobbin[girl] = winds ? takes : used + takes;
                tried[seam] = girl;
                if (times[girl] < soonest) {
                    giveOut(room, length, seam + 1, girl == busy ? busy + 1 : busy);
                }
                times[girl] = time;
                onBobbin[girl] = used;
            }
        }

        /** Finds where bobbins are begun; startCount is NONE when it can't be. */
        private void hide(Room room, int length) {
            int total = room.ahead[room.seamCount];
            int count = listSpots(room);
            for (int from = count - 1; from >= 0; from--) {
                nexts[from] = NONE;
                costs[from] = total - spots[from] <= length ? 0 : Integer.MAX_VALUE;
                for (int to = from + 1; to < count && costs[from] > 0; to++) {
                    boolean reaches = spots[to] - spots[from] <= length && costs[to] < Integer.MAX_VALUE;
                    int cost = reaches ? costs[to] + costOf(room, to) : Integer.MAX_VALUE;
                    // Of like ones the later is taken: spots are told from the first on.
                    if (reaches && cost <= costs[from]) {
                        costs[from] = cost;
                        nexts[from] = to;
                    }
                }
            }
            startCount = count > 0 && costs[0] == Integer.MAX_VALUE ? NONE : 0;
            startsShown = 0;
            if (count > 0 && startCount == 0) {
                listStarts(room);
            }
        }

        private void listStarts(Room room) {
            int spot = nexts[0];
            for (int n = 0; n < SPOT_LIMIT && spot > 0; n++) {
                starts[startCount] = spotNames[spot];
                startCount++;
                startsShown += costOf(room, spot) % 100;
                spot = nexts[spot];
            }
        }

        /** A bobbin counts 100, more than all that are begun in seams that show can come to. */
        private int costOf(Room room, int spot) {
            int name = spotNames[spot];
            boolean inside = name % 100 != 0;
            int seam = name / 100;
            return 100 + (inside && seam < room.seamCount ? room.shows[seam] : 0);
        }

        /** Lists where a bobbin may be begun, by yards, and how each is told. */
        private int listSpots(Room room) {
            int count = 0;
            for (int seam = 0; seam < room.seamCount; seam++) {
                spots[count] = room.ahead[seam];
                spotNames[count] = 100 * seam;
                count++;
                for (int k = 0; k < room.placeCounts[seam] && k < PLACE_LIMIT; k++) {
                    int place = room.places[seam * PLACE_LIMIT + k];
                    spots[count] = room.ahead[seam] + place;
                    spotNames[count] = 100 * seam + place;
                    count++;
                }
            }
            return count;
        }
    }

    /** The day by the seed, and how it stood ahead of the latest acts. */
    private static final class Day {
        private static final int KEPT = 6;

        private int sewn;
        private int used;
        private int lasts;
        private int changes;
        private int mends;
        private int cost;
        private int seed = 1;
        private final int[] past = new int[UNDO_LIMIT * KEPT];
        private int pastCount;

        private void enter(Room room) {
            restart(room.lengths[0]);
            pastCount = 0;
        }

        private void restart(int length) {
            sewn = 0;
            used = 0;
            lasts = length;
            changes = 0;
            mends = 0;
            cost = 0;
        }

        private int draw(Room room) {
            seed = (int) ((1103515245L * seed + 12345L) & 2147483647L);
            return room.lengthBy(seed / 64 % 100);
        }

        private void pay(int minutes) {
            cost = Math.min(DEAREST, cost + minutes);
        }

        /** Sews the next seam: what that costs. */
        private int stitch(Room room, boolean change) {
            if (sewn >= room.seamCount) {
                return 0;
            }
            int spent = 0;
            if (change) {
                spent += room.minutes[WIND_COST];
                changes++;
                used = 0;
                lasts = draw(room);
            }
            used += room.takes[sewn];
            sewn++;
            if (used > lasts) {
                spent += room.minutes[MEND_COST] + room.minutes[WIND_COST];
                mends++;
                used = 0;
                lasts = draw(room);
            }
            return spent;
        }

        private void keep() {
            if (pastCount >= UNDO_LIMIT) {
                System.arraycopy(past, KEPT, past, 0, past.length - KEPT);
                pastCount = UNDO_LIMIT - 1;
            }
            int at = pastCount * KEPT;
            past[at] = sewn;
            past[at + 1] = used;
            past[at + 2] = lasts;
            past[at + 3] = changes;
            past[at + 4] = mends;
            past[at + 5] = cost;
            pastCount++;
        }

        private void back() {
            if (pastCount <= 0) {
                return;
            }
            pastCount--;
            int at = pastCount * KEPT;
            sewn = past[at];
            used = past[at + 1];
            lasts = past[at + 2];
            changes = past[at + 3];
            mends = past[at + 4];
            cost = past[at + 5];
        }
    }
}
