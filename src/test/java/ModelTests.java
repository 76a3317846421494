import java.util.ArrayList;
import java.util.List;
import java.util.Map;

/** Rooms made up by chance: what the program answers against what the model finds in the longest way. */
final class ModelTests {
    private static final String[] ASKED = {"takes", "shown", "used", "left", "changed", "mended", "number"};

    private static BelowThread last = new BelowThread();

    /** An object in the model's room: a new one, or (as often) that of the room before. */
    private static BelowThread in(Model m) {
        if (m.random.nextBoolean()) {
            last = new BelowThread();
        }
        Checks.due("room", Checks.room(last, m.text), m.statements);
        return last;
    }

    public static void main(String[] args) {
        for (int seed = 0; seed < 600; seed++) {
            Model model = new Model(seed, seed % 11);
            if (model.text.length() > 1600) {
                continue;
            }
            int before = Checks.wrong();
            told(model);
            courses(model);
            bobbins(model);
            hidden(model);
            day(model, seed);
            if (model.takes.length <= 6) {
                chances(model);
            }
            if (Checks.wrong() != before) {
                System.out.println("in room " + seed + ": " + model.text);
            }
        }
        Checks.end("ModelTests");
    }

    private static void told(Model m) {
        BelowThread x = new BelowThread();
        Checks.due("room", Checks.room(x, m.text), m.statements);
        Checks.due("has(0)", x.has(0), m.lengths.length);
        Checks.due("has(1)", x.has(1), m.takes.length);
        Checks.due("has(2)", x.has(2), m.rules.size());
        int[] minutes = {m.wind, m.mend, m.look, m.batch, m.ahead, m.girls};
        for (int k = 0; k < 6; k++) {
            Checks.due("has(3+)", x.has(3 + k), minutes[k]);
        }
        int all = 0;
        for (int k = 0; k < m.takes.length; k++) {
            all += m.takes[k];
            Checks.due("seam takes", x.seam(k, 0), m.takes[k]);
            Checks.due("seam shows", x.seam(k, 1), m.shown[k] ? 1 : 0);
            Checks.due("seam places", x.seam(k, 2), m.places[k].length);
            for (int p = 0; p < m.places[k].length; p++) {
                Checks.due("seam place", x.seam(k, 10 + p), m.places[k][p]);
            }
            Checks.due("seam no place", x.seam(k, 10 + m.places[k].length), -1);
            Checks.due("letter", x.letter(0, k, 0), k + 1);
        }
        Checks.due("has(9)", x.has(9), all);
        for (int k = 0; k < m.lengths.length; k++) {
            Checks.due("bobbin", x.bobbin(k, 0), m.lengths[k]);
            Checks.due("odds", x.bobbin(k, 1), m.odds[k]);
        }
        for (int k = 0; k < m.rules.size(); k++) {
            Checks.due("rule letter", x.letter(1, k, 1), k + 1);
        }
        for (int n = 0; n < 100; n++) {
            Checks.due("wound", x.wound(n), wound(m, n));
        }
    }

    private static int wound(Model m, int n) {
        int best = Integer.MAX_VALUE;
        for (int batches = 0; batches <= n; batches++) {
            best = Math.min(best, batches * m.batch + Math.max(0, n - batches * m.ahead) * m.wind);
        }
        return best;
    }

    private static void courses(Model m) {
        int sewers = 4 + m.rules.size();
        for (int sewer = 0; sewer < sewers; sewer++) {
            boolean there = sewer != 3 || m.takes.length <= 6;
            for (int length : new int[] {1 + m.random.nextInt(99), m.lengths[0], 99}) {
                BelowThread x = in(m);
                if (!there) {
                    Checks.due("judge of none", x.judge(sewer, length, 1), -1);
                    Checks.due("row of none", x.row(sewer, length, 0, 0), -1);
                    Checks.due("ask of none", Checks.ask(x, sewer, length, "often all"), BelowThread.NOTHING);
                    continue;
                }
                course(m, x, sewer, length);
            }
        }
        BelowThread x = in(m);
        Checks.due("no such sewer", x.judge(sewers, 9, 1), -1);
        Checks.due("no such sewer", x.mean(sewers), -1);
    }

    private static void course(Model m, BelowThread x, int sewer, int length) {
        List<Map<String, Integer>> rows = new ArrayList<>();
        int used = 0, changes = 0, mends = 0, cost = 0, first = -1;
        for (int k = 0; k < m.takes.length; k++) {
            cost += sewer == 2 && used > 0 ? m.look : 0;
            boolean change = m.changes(sewer, k, used, length);
            used = change ? 0 : used;
            boolean mend = used + m.takes[k] > length;
            Map<String, Integer> row = m.partsOf(k, used);
            row.put("left", length - used);
            row.put("changed", change ? 1 : 0);
            row.put("mended", mend ? 1 : 0);
            rows.add(row);
            Checks.due("row used", x.row(sewer, length, k, 0), used);
            Checks.due("row changed", x.row(sewer, length, k, 1), change ? 1 : 0);
            Checks.due("row mended", x.row(sewer, length, k, 2), mend ? 1 : 0);
            used = mend ? 0 : used + m.takes[k];
            changes += change ? 1 : 0;
            mends += mend ? 1 : 0;
            first = mend && first < 0 ? k : first;
        }
        cost += (changes + mends) * m.wind + mends * m.mend;
        Checks.due("judge 0", x.judge(sewer, length, 0), first);
        Checks.due("judge 1", x.judge(sewer, length, 1), changes);
        Checks.due("judge 2", x.judge(sewer, length, 2), mends);
        Checks.due("judge 3", x.judge(sewer, length, 3), cost);
        for (int n = 0; n < 4; n++) {
            question(m, x, sewer, length, rows);
        }
    }

    private static void question(Model m, BelowThread x, int sewer, int length, List<Map<String, Integer>> rows) {
        boolean test = m.random.nextBoolean();
        Model.Piece piece = test ? m.test(0, ASKED, true) : m.sum(0, ASKED, true);
        String word = (test ? "first last often" : "total most least").split(" ")[m.random.nextInt(3)];
        long answer = word.equals("first") || word.equals("last") ? -1 : 0;
        for (int k = 0; k < rows.size(); k++) {
            int worth = piece.worth().of(rows.get(k));
            switch (word) {
                case "first": answer = answer < 0 && worth != 0 ? k : answer; break;
                case "last": answer = worth != 0 ? k : answer; break;
                case "most": answer = k == 0 ? worth : Math.max(answer, worth); break;
                case "least": answer = k == 0 ? worth : Math.min(answer, worth); break;
                default: answer += worth;
            }
        }
        String text = word + (piece.text().startsWith("(") ? "" : " ") + piece.text();
        if (text.length() <= 1600) {
            Checks.due("ask(" + sewer + ", " + length + ") " + text, Checks.ask(x, sewer, length, text), answer);
            Checks.due("its fault", x.fault(0), 0);
        }
    }

    private static void chances(Model m) {
        BelowThread x = in(m);
        int best = -1;
        Model.Ratio cheapest = null;
        for (int sewer = 0; sewer < 4 + m.rules.size(); sewer++) {
            Model.Ratio mean = m.mean(sewer);
            Checks.due("mean(" + sewer + ")", x.mean(sewer), mean.thousandths());
            if (sewer >= 4 && (best < 0 || mean.compareTo(cheapest) < 0)) {
                best = sewer - 4;
                cheapest = mean;
            }
        }
        Checks.due("rule()", x.rule(), best);
        Model.Ratio least = m.least(0, 0, true);
        Checks.due("looks(0)", x.looks(0), least.thousandths());
        Checks.due("looks(1)", x.looks(1), m.mean(3).minus(least).thousandths());
        Checks.due("CHANCE is the least", m.mean(3).compareTo(m.least(0, 0, false)), 0);
        for (int n = 0; n < 60 && m.takes.length > 0; n++) {
            int seam = m.random.nextInt(m.takes.length);
            int used = m.random.nextInt(100);
            Checks.due("when(" + seam + ", " + used + ")", x.when(seam, used), m.changesByChance(seam, used) ? 1 : 0);
        }
    }

    private static void bobbins(Model m) {
        BelowThread x = in(m);
        int[] some = {1 + m.random.nextInt(99), m.lengths[0], 20 + m.random.nextInt(60), 99};
        for (int length : some) {
            if (!m.canSew(length)) {
                Checks.due("fewest", x.fewest(length, -1), -1);
                Checks.due("free", x.free(length, -1), -1);
                Checks.due("several", x.several(length, -1), -1);
                continue;
            }
            int[] order = m.order(length);
            int[][] packed = m.anyOrder(length);
            int[][] shared = m.several(length);
            int count = 0;
            for (int k = 0; k < order.length; k++) {
                Checks.due("fewest(" + length + ", " + k + ")", x.fewest(length, k), order[k]);
                Checks.due("free(" + length + ", " + k + ")", x.free(length, k), packed[1][k]);
                Checks.due("several(" + length + ", " + k + ")", x.several(length, k), shared[1][k]);
                count += order[k];
            }
            Checks.due("fewest", x.fewest(length, -1), count);
            Checks.due("free", x.free(length, -1), packed[0][0]);
            Checks.due("several", x.several(length, -1), shared[0][0]);
        }
        if (m.takes.length > 0) {
            seen(m, x);
        }
    }

    private static void seen(Model m, BelowThread x) {
        int[] order = m.order(1 + m.random.nextInt(99));
        int rows = 1 + m.random.nextInt(20);
        int[] bytes = new int[2 * rows];
        for (int k = 0; k < rows; k++) {
            bytes[2 * k] = m.random.nextInt(m.takes.length);
            bytes[2 * k + 1] = order[bytes[2 * k]] ^ (m.random.nextInt(40) == 0 ? 1 : 0);
        }
        Checks.tape(x, bytes);
        Checks.due("see", x.see(), rows);
        int count = 0, least = -1, most = -1;
        for (int length = 1; length <= 99; length++) {
            boolean so = m.canSew(length);
            for (int k = 0; k < rows && so; k++) {
                so = m.order(length)[bytes[2 * k]] == bytes[2 * k + 1];
            }
            count += so ? 1 : 0;
            least = so && least < 0 ? length : least;
            most = so ? length : most;
        }
        Checks.due("fits(0)", x.fits(0), count);
        Checks.due("fits(1)", x.fits(1), least);
        Checks.due("fits(2)", x.fits(2), most);
    }

    private static void hidden(Model m) {
        BelowThread x = in(m);
        for (int n = 0; n < 4; n++) {
            int length = 1 + m.random.nextInt(n == 0 ? 99 : 40);
            List<int[]> starts = m.hidden(length);
            String what = "hidden(" + length + ")";
            if (starts == null) {
                Checks.due(what, x.hidden(length, 0), -1);
                Checks.due(what, x.hidden(length, 1), -1);
                continue;
            }
            int shown = 0;
            for (int k = 0; k < starts.size(); k++) {
                Checks.due(what + " start " + k, x.hidden(length, 10 + k), starts.get(k)[1]);
                shown += starts.get(k)[2];
            }
            Checks.due(what, x.hidden(length, 0), m.takes.length == 0 ? 0 : starts.size() + 1);
            Checks.due(what + " shown", x.hidden(length, 1), shown);
            Checks.due(what + " no start", x.hidden(length, 10 + starts.size()), -1);
            Checks.due(what + " else", x.hidden(length, 2 + m.random.nextInt(8)), -1);
        }
    }

    // ---- the day by the seed: {sewn, used, lasts, changes, mended, cost}

    private static long x31;

    private static int draw(Model m) {
        x31 = (1103515245L * x31 + 12345) % (1L << 31);
        long n = x31 / 64 % 100;
        for (int k = 0; k < m.lengths.length; k++) {
            n -= m.odds[k];
            if (n < 0) {
                return m.lengths[k];
            }
        }
        throw new IllegalStateException("odds");
    }

    private static int stitch(Model m, int[] day, boolean change) {
        int spent = 0;
        if (change) {
            spent += m.wind;
            day[3]++;
            day[1] = 0;
            day[2] = draw(m);
        }
        if (day[1] + m.takes[day[0]] <= day[2]) {
            day[1] += m.takes[day[0]];
        } else {
            spent += m.wind + m.mend;
            day[4]++;
            day[1] = 0;
            day[2] = draw(m);
        }
        day[0]++;
        return spent;
    }

    private static void day(Model m, int seed) {
        BelowThread x = new BelowThread();
        x31 = 1;
        if (seed % 2 == 0) {
            x31 = seed % 4 == 0 ? Integer.MAX_VALUE : m.random.nextInt(Integer.MAX_VALUE);
            Checks.due("seed", x.seed((int) x31), true);
        }
        Checks.room(x, m.text);
        int[] day = {0, 0, m.lengths[0], 0, 0, 0};
        List<int[]> past = new ArrayList<>();
        for (int n = 0; n < 45; n++) {
            day = act(m, x, day, past);
            Checks.due("day sewn", x.day(0), day[0]);
            Checks.due("day used", x.day(1), day[1]);
            Checks.due("day changes", x.day(2), day[3]);
            Checks.due("day mended", x.day(3), day[4]);
            Checks.due("day cost", x.day(4), day[5]);
            Checks.due("day left", x.day(5), day[0] < m.takes.length ? 1 : 0);
            Checks.due("has(11)", x.has(11), past.size());
        }
        Checks.due("lasts", Checks.imageOf(x)[2], day[2]);
    }

    /** An image, often of what can be: {sewn, used, lasts, changes, mended, cost} as a day is. */
    private static int[] image(Model m, BelowThread x, int[] was, List<int[]> past) {
        int length = m.lengths[m.random.nextInt(m.lengths.length)];
        int lasts = m.random.nextInt(8) == 0 ? m.random.nextInt(256) : length;
        int sewn = Math.max(0, m.random.nextInt(m.takes.length + 2) - m.random.nextInt(2));
        int used = m.random.nextInt(lasts + (m.random.nextInt(4) == 0 ? 3 : 1));
        int changes = m.random.nextInt(sewn + (m.random.nextInt(4) == 0 ? 3 : 1));
        int mended = m.random.nextInt(sewn + (m.random.nextInt(4) == 0 ? 3 : 1));
        int cost = m.random.nextBoolean() ? m.random.nextInt(300) : 9000 + m.random.nextInt(1100);
        boolean there = false;
        for (int one : m.lengths) {
            there |= one == lasts;
        }
        boolean good = there && used <= lasts && sewn <= m.takes.length && changes <= sewn && mended <= sewn && cost <= 9999;
        int[] bytes = Checks.image(sewn, Math.min(255, used), lasts, changes, mended, cost);
        if (m.random.nextInt(6) == 0) {
            bytes[7] = (bytes[7] + 1) % 256;
            good = false;
        }
        Checks.tape(x, bytes);
        Checks.due("on", x.on(), good);
        if (!good) {
            return was;
        }
        past.clear();
        return new int[] {sewn, used, lasts, changes, mended, cost};
    }

    private static int[] act(Model m, BelowThread x, int[] was, List<int[]> past) {
        int[] day = was.clone();
        boolean left = day[0] < m.takes.length;
        int what = m.random.nextInt(9);
        if (what == 8) {
            return image(m, x, was, past);
        }
        if (what == 0) {
            int[] back = past.isEmpty() ? was : past.remove(past.size() - 1);
            Checks.due("undo", x.undo(), back != was);
            return back;
        }
        if (what == 1) {
            int lasts = draw(m);
            Checks.due("anew", x.anew(), lasts);
            day = new int[] {0, 0, lasts, 0, 0, 0};
        } else if (what == 2) {
            Checks.due("glance", x.glance(), left ? day[1] + m.takes[day[0]] <= day[2] ? 1 : 0 : -1);
            day[5] += left ? m.look : 0;
        } else if (what == 3) {
            int sewer = m.random.nextInt(5 + m.rules.size()) - 1;
            boolean can = left && sewer >= 0 && (sewer != 3 || m.takes.length <= 6) && sewer < 4 + m.rules.size();
            int cost = 0;
            while (can && day[0] < m.takes.length) {
                cost += sewer == 2 && day[1] > 0 ? m.look : 0;
                cost += stitch(m, day, m.changes(sewer, day[0], day[1], day[2]));
            }
            day[5] += cost;
            Checks.due("sews(" + sewer + ")", x.sews(sewer), can ? cost : -1);
            left = can;
        } else {
            boolean change = m.random.nextBoolean();
            left = left && !(change && day[1] == 0);
            int mends = day[4];
            day[5] += left ? stitch(m, day, change) : 0;
            Checks.due("sew", x.sew(change), left ? day[4] - mends : -1);
        }
        day[5] = Math.min(9999, day[5]);
        if (left || what == 1) {
            past.add(was);
            if (past.size() > 20) {
                past.remove(0);
            }
        }
        return day;
    }
}
