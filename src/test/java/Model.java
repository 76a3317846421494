import java.math.BigInteger;
import java.util.ArrayList;
import java.util.HashMap;
import java.util.List;
import java.util.Map;
import java.util.Random;

/** A room made up by chance, told as a text, and what the document asks of it, found in the longest way. */
final class Model {
    interface Worth {
        int of(Map<String, Integer> parts);
    }

    /** A piece of a test or sum: its text and what it comes to. */
    record Piece(String text, Worth worth) {
    }

    static final class Ratio implements Comparable<Ratio> {
        final BigInteger up;
        final BigInteger down;

        Ratio(BigInteger up, BigInteger down) {
            BigInteger g = up.gcd(down).max(BigInteger.ONE);
            this.up = up.divide(g);
            this.down = down.divide(g);
        }

        static Ratio of(long n) {
            return of(n, 1);
        }

        static Ratio of(long n, long m) {
            return new Ratio(BigInteger.valueOf(n), BigInteger.valueOf(m));
        }

        Ratio plus(Ratio o) {
            return new Ratio(up.multiply(o.down).add(o.up.multiply(down)), down.multiply(o.down));
        }

        Ratio minus(Ratio o) {
            return plus(new Ratio(o.up.negate(), o.down));
        }

        Ratio times(Ratio o) {
            return new Ratio(up.multiply(o.up), down.multiply(o.down));
        }

        int thousandths() {
            return up.multiply(BigInteger.valueOf(1000)).divide(down).intValueExact();
        }

        @Override public int compareTo(Ratio o) {
            return up.multiply(o.down).compareTo(o.up.multiply(down));
        }
    }

    final Random random;
    final int[] lengths;
    final int[] odds;
    final int[] takes;
    final boolean[] shown;
    final int[][] places;
    final List<Piece> rules = new ArrayList<>();
    int wind = 2, mend = 9, look = 1, batch = 9, ahead = 5, girls = 1;
    int statements;
    final String text;

    Model(long seed, int seams) {
        random = new Random(seed);
        lengths = new int[1 + random.nextInt(6)];
        odds = new int[lengths.length];
        int top = random.nextInt(3) == 0 ? 99 : 10 + random.nextInt(40);
        takes = new int[seams];
        shown = new boolean[seams];
        places = new int[seams][];
        StringBuilder out = new StringBuilder();
        tellLengths(out, top);
        int rest = 1 + random.nextInt(3) * 8;
        for (int k = 0; k < seams; k++) {
            tellSeam(out, k, Math.max(1, Math.min(99, top / (1 + random.nextInt(3)) - random.nextInt(rest))));
            if (rules.size() < 4 && random.nextInt(3) == 0) {
                tellRule(out);
            }
            if (random.nextInt(2) == 0) {
                tellMinutes(out);
            }
        }
        text = out.toString();
    }

    private String gap() {
        return random.nextInt(9) == 0 ? "\n  " : " ";
    }

    private String may() {
        return random.nextInt(4) == 0 ? gap() : "";
    }

    private void tellLengths(StringBuilder out, int top) {
        out.append(may()).append("bobbin");
        int left = 100;
        for (int k = 0; k < lengths.length; k++) {
            boolean again = true;
            while (again) {
                lengths[k] = 1 + random.nextInt(top);
                again = false;
                for (int j = 0; j < k; j++) {
                    again |= lengths[j] == lengths[k];
                }
            }
            int behind = lengths.length - 1 - k;
            odds[k] = behind == 0 ? left : 1 + random.nextInt(left - behind);
            left -= odds[k];
            out.append(gap()).append("lasts").append(gap()).append(lengths[k]).append(gap()).append("odds")
                .append(gap()).append(odds[k]);
        }
        out.append(may()).append(";").append(may());
        statements = 1;
    }

    private void tellSeam(StringBuilder out, int k, int yards) {
        takes[k] = yards;
        shown[k] = random.nextBoolean();
        out.append("seam").append(gap()).append((char) ('a' + k)).append(gap()).append("takes").append(gap()).append(yards);
        if (shown[k]) {
            out.append(gap()).append("shown");
        }
        List<Integer> all = new ArrayList<>();
        for (int p = 1 + random.nextInt(3); p < yards && all.size() < 4; p += 1 + random.nextInt(Math.max(1, yards / 3))) {
            all.add(p);
        }
        if (random.nextBoolean()) {
            all.clear();
        }
        places[k] = all.stream().mapToInt(i -> i).toArray();
        if (places[k].length > 0) {
            out.append(gap()).append("anew");
        }
        for (int p : places[k]) {
            out.append(gap()).append(p);
        }
        out.append(may()).append(";").append(may());
        statements++;
    }

    private void tellRule(StringBuilder out) {
        Piece rule = test(0, new String[] {"takes", "shown", "used", "rest", "number", "least", "most"}, false);
        out.append("rule ").append("rule".charAt(0)).append((char) ('a' + rules.size())).append("r when ")
            .append(rule.text()).append(may()).append(";").append(may());
        rules.add(rule);
        statements++;
    }

    private void tellMinutes(StringBuilder out) {
        int n = random.nextInt(random.nextBoolean() ? 100 : 12);
        switch (random.nextInt(6)) {
            case 0: out.append("wind ").append(wind = n); break;
            case 1: out.append("mend ").append(mend = n); break;
            case 2: out.append("look ").append(look = n % 9); break;
            case 3: out.append("batch ").append(batch = n); break;
            case 4: out.append("ahead ").append(ahead = 1 + n % 9); break;
            default: out.append("girls ").append(girls = 1 + n % 3); break;
        }
        out.append(";");
        statements++;
    }

    // ---- tests and sums

    private static Piece joined(Piece a, String sign, Piece b, Worth worth) {
        return new Piece(a.text() + sign + b.text(), worth);
    }

    Piece test(int depth, String[] parts, boolean asks) {
        Piece all = both(depth, parts, asks);
        for (int n = random.nextInt(3); n > 1 - depth % 2; n--) {
            Piece a = all;
            Piece b = both(depth, parts, asks);
            all = joined(a, " or ", b, p -> a.worth().of(p) | b.worth().of(p));
        }
        return all;
    }

    private Piece both(int depth, String[] parts, boolean asks) {
        Piece all = fact(depth, parts, asks);
        for (int n = random.nextInt(3); n > 1; n--) {
            Piece a = all;
            Piece b = fact(depth, parts, asks);
            all = joined(a, gap() + "and ", b, p -> a.worth().of(p) & b.worth().of(p));
        }
        return all;
    }

    private Piece fact(int depth, String[] parts, boolean asks) {
        int what = random.nextInt(8);
        if (what == 0 && depth < 4) {
            Piece a = fact(depth + 1, parts, asks);
            return new Piece("not " + a.text(), p -> 1 - a.worth().of(p));
        }
        if (what == 1 && depth < 4) {
            Piece a = test(depth + 1, parts, asks);
            return new Piece("[" + may() + a.text() + may() + "]", a.worth());
        }
        if (what == 2) {
            return new Piece("all", p -> 1);
        }
        Piece a = sum(depth, parts, asks);
        Piece b = sum(depth, parts, asks);
        switch (random.nextInt(5)) {
            case 0: return joined(a, may() + "=" + may(), b, p -> a.worth().of(p) == b.worth().of(p) ? 1 : 0);
            case 1:
            case 2: return joined(a, may() + "<" + may(), b, p -> a.worth().of(p) < b.worth().of(p) ? 1 : 0);
            default: return joined(a, may() + ">" + may(), b, p -> a.worth().of(p) > b.worth().of(p) ? 1 : 0);
        }
    }

    private static int held(long n) {
        return (int) Math.max(-1000000, Math.min(1000000, n));
    }

    Piece sum(int depth, String[] parts, boolean asks) {
        Piece all = product(depth, parts, asks);
        for (int n = random.nextInt(3); n > 0; n--) {
            Piece a = all;
            Piece b = product(depth, parts, asks);
            all = random.nextBoolean()
                ? joined(a, may() + "+" + may(), b, p -> held((long) a.worth().of(p) + b.worth().of(p)))
                : joined(a, may() + "-" + may(), b, p -> held((long) a.worth().of(p) - b.worth().of(p)));
        }
        return all;
    }

    private Piece product(int depth, String[] parts, boolean asks) {
        Piece all = part(depth, parts, asks);
        for (int n = random.nextInt(4); n > 1; n--) {
            Piece a = all;
            Piece b = part(depth, parts, asks);
            all = random.nextBoolean()
                ? joined(a, may() + "*" + may(), b, p -> held((long) a.worth().of(p) * b.worth().of(p)))
                : joined(a, may() + "/" + may(), b, p -> quotient(a.worth().of(p), b.worth().of(p)));
        }
        return all;
    }

    private static int quotient(int a, int b) {
        return b == 0 ? 0 : (int) Math.floor((double) a / b);
    }

    private Piece part(int depth, String[] parts, boolean asks) {
        int what = random.nextInt(12);
        if (what == 0 && depth < 5) {
            Piece a = sum(depth + 1, parts, asks);
            return new Piece("(" + a.text() + may() + ")", a.worth());
        }
        if (what < 3 && depth < 5) {
            Piece a = sum(depth + 1, parts, asks);
            Piece b = sum(depth + 1, parts, asks);
            return what == 1
                ? new Piece("min(" + a.text() + "," + b.text() + ")", p -> Math.min(a.worth().of(p), b.worth().of(p)))
                : new Piece("max" + may() + "(" + a.text() + " ," + b.text() + ")", p -> Math.max(a.worth().of(p), b.worth().of(p)));
        }
        if (what == 3 && depth < 5 && asks) {
            Piece a = part(depth + 1, parts, asks);
            return new Piece("yards " + a.text(), p -> {
                int n = a.worth().of(p);
                return n >= 0 && n < takes.length ? takes[n] : 0;
            });
        }
        if (what < 7) {
            int n = random.nextInt(random.nextInt(5) == 0 ? 10000 : 30);
            return new Piece(Integer.toString(n), p -> n);
        }
        String name = parts[random.nextInt(parts.length)];
        return new Piece(name, p -> p.get(name));
    }

    Map<String, Integer> partsOf(int seam, int used) {
        Map<String, Integer> parts = new HashMap<>();
        int rest = 0, least = 99, most = 0;
        for (int k = seam; k < takes.length; k++) {
            rest += takes[k];
        }
        for (int length : lengths) {
            least = Math.min(least, length);
            most = Math.max(most, length);
        }
        parts.put("takes", takes[seam]);
        parts.put("shown", shown[seam] ? 1 : 0);
        parts.put("used", used);
        parts.put("rest", rest);
        parts.put("number", seam);
        parts.put("least", least);
        parts.put("most", most);
        return parts;
    }

    // ---- sewers

    /** Whether a sewer changes ahead of a seam, the bobbin on lasting so much. */
    boolean changes(int sewer, int seam, int used, int lasts) {
        if (used == 0) {
            return false;
        }
        switch (sewer) {
            case 0: return false;
            case 1: return used + takes[seam] > partsOf(seam, used).get("least");
            case 2: return used + takes[seam] > lasts;
            case 3: return changesByChance(seam, used);
            default: return rules.get(sewer - 4).worth().of(partsOf(seam, used)) != 0;
        }
    }

    private final Map<String, Ratio> known = new HashMap<>();

    private Ratio odds(int length) {
        return Ratio.of(odds[length], 100);
    }

    /** What sewing a seam from a bobbin costs, with all behind it, by what the bobbin can be. */
    private Ratio sewn(int seam, int used, boolean looks) {
        long all = 0;
        long lasts = 0;
        for (int k = 0; k < lengths.length; k++) {
            all += lengths[k] >= used ? odds[k] : 0;
            lasts += lengths[k] >= used + takes[seam] ? odds[k] : 0;
        }
        Ratio good = all == 0 ? Ratio.of(0) : Ratio.of(lasts, all);
        Ratio bad = Ratio.of(1).minus(good);
        Ratio cost = bad.times(Ratio.of(mend + wind).plus(least(seam + 1, 0, looks)));
        return lasts == 0 ? cost : cost.plus(good.times(least(seam + 1, used + takes[seam], looks)));
    }

    private Ratio looked(int seam, int used) {
        long all = 0;
        long lasts = 0;
        for (int k = 0; k < lengths.length; k++) {
            all += lengths[k] >= used ? odds[k] : 0;
            lasts += lengths[k] >= used + takes[seam] ? odds[k] : 0;
        }
        Ratio good = all == 0 ? Ratio.of(0) : Ratio.of(lasts, all);
        Ratio cost = Ratio.of(look).plus(Ratio.of(1).minus(good).times(Ratio.of(wind).plus(sewn(seam, 0, true))));
        return lasts == 0 ? cost : cost.plus(good.times(least(seam + 1, used + takes[seam], true)));
    }

    Ratio least(int seam, int used, boolean looks) {
        if (seam == takes.length) {
            return Ratio.of(0);
        }
        String key = seam + " " + used + " " + looks;
        if (known.containsKey(key)) {
            return known.get(key);
        }
        Ratio best = sewn(seam, used, looks);
        if (used > 0) {
            Ratio other = Ratio.of(wind).plus(sewn(seam, 0, looks));
            best = other.compareTo(best) < 0 ? other : best;
            if (looks) {
                other = looked(seam, used);
                best = other.compareTo(best) < 0 ? other : best;
            }
        }
        known.put(key, best);
        return best;
    }

    boolean changesByChance(int seam, int used) {
        return used > 0 && Ratio.of(wind).plus(sewn(seam, 0, false)).compareTo(sewn(seam, used, false)) < 0;
    }

    /** What a day costs on the mean, each bobbin's length told out in turn. */
    Ratio mean(int sewer) {
        return onFresh(sewer, 0, 0, false);
    }

    private Ratio onFresh(int sewer, int seam, int spent, boolean decided) {
        Ratio all = Ratio.of(0);
        for (int k = 0; k < lengths.length; k++) {
            all = all.plus(odds(k).times(from(sewer, seam, 0, lengths[k], spent, decided)));
        }
        return all;
    }

    private Ratio from(int sewer, int seam, int used, int lasts, int spent, boolean decided) {
        if (seam == takes.length) {
            return Ratio.of(spent);
        }
        if (!decided && used > 0) {
            int paid = spent + (sewer == 2 ? look : 0);
            return changes(sewer, seam, used, lasts)
                ? onFresh(sewer, seam, paid + wind, true) : from(sewer, seam, used, lasts, paid, true);
        }
        return used + takes[seam] <= lasts
            ? from(sewer, seam + 1, used + takes[seam], lasts, spent, false)
            : onFresh(sewer, seam + 1, spent + mend + wind, false);
    }

    // ---- bobbins

    boolean canSew(int length) {
        for (int t : takes) {
            if (t > length) {
                return false;
            }
        }
        return true;
    }

    int[] order(int length) {
        int[] begins = new int[takes.length];
        int used = length;
        for (int k = 0; k < takes.length; k++) {
            used += takes[k];
            if (used > length) {
                begins[k] = 1;
                used = takes[k];
            }
        }
        return begins;
    }

    private int bestCount;
    private int[] bestWay;

    /** Every way to number bobbins as they are first needed, in order; {how many, the way}. */
    int[][] anyOrder(int length) {
        bestCount = 99;
        bestWay = new int[takes.length];
        pack(length, 0, new int[takes.length], new int[takes.length + 1], 0);
        return new int[][] {{takes.length == 0 ? 0 : bestCount}, bestWay};
    }

    private void pack(int length, int seam, int[] way, int[] loads, int opened) {
        if (seam == takes.length) {
            if (opened < bestCount) {
                bestCount = opened;
                bestWay = way.clone();
            }
            return;
        }
        for (int k = 0; k <= opened && k < takes.length; k++) {
            if (loads[k] + takes[seam] <= length) {
                loads[k] += takes[seam];
                way[seam] = k;
                pack(length, seam + 1, way, loads, Math.max(opened, k + 1));
                loads[k] -= takes[seam];
            }
        }
    }

    int[][] several(int length) {
        int ways = (int) Math.pow(girls, takes.length);
        int best = Integer.MAX_VALUE;
        int[] chosen = new int[takes.length];
        for (int way = 0; way < ways; way++) {
            int[] girl = new int[takes.length];
            int rest = way;
            for (int k = takes.length - 1; k >= 0; k--) {
                girl[k] = rest % girls;
                rest /= girls;
            }
            int last = 0;
            for (int g = 0; g < girls; g++) {
                last = Math.max(last, timeOf(girl, g, length));
            }
            if (last < best) {
                best = last;
                chosen = girl;
            }
        }
        return new int[][] {{best}, chosen};
    }

    private int timeOf(int[] girl, int g, int length) {
        int time = 0, bobbins = 0, left = 0;
        for (int k = 0; k < takes.length; k++) {
            if (girl[k] == g) {
                if (takes[k] > left) {
                    bobbins++;
                    left = length;
                }
                left -= takes[k];
                time += takes[k];
            }
        }
        return time + Math.max(0, bobbins - 1) * wind;
    }

    /** The best way to begin bobbins, as {yards, name, shows} of each behind the first one; null without. */
    List<int[]> hidden(int length) {
        List<int[]> spots = new ArrayList<>();
        spots.add(new int[] {0, 0, 0});
        int yards = 0;
        for (int k = 0; k < takes.length; k++) {
            if (k > 0) {
                spots.add(new int[] {yards, 100 * k, 0});
            }
            for (int p : places[k]) {
                spots.add(new int[] {yards + p, 100 * k + p, shown[k] ? 1 : 0});
            }
            yards += takes[k];
        }
        return spots.size() <= 14 ? tryAll(spots, yards, length) : wayFrom(0, spots, yards, length, new HashMap<>());
    }

    private static List<int[]> tryAll(List<int[]> spots, int total, int length) {
        List<int[]> best = null;
        for (int some = 0; some < 1 << spots.size() - 1; some++) {
            List<int[]> way = new ArrayList<>();
            int begun = 0;
            boolean whole = true;
            for (int k = 1; k < spots.size(); k++) {
                if ((some >> k - 1 & 1) == 1) {
                    way.add(spots.get(k));
                    whole &= spots.get(k)[0] - begun <= length;
                    begun = spots.get(k)[0];
                }
            }
            best = whole && total - begun <= length && isBetter(way, best) ? way : best;
        }
        return best;
    }

    /** Whole ways are compared, each found from those of all later spots. */
    private static List<int[]> wayFrom(int from, List<int[]> spots, int total, int length, Map<Integer, List<int[]>> known) {
        if (known.containsKey(from)) {
            return known.get(from);
        }
        List<int[]> best = total - spots.get(from)[0] <= length ? new ArrayList<>() : null;
        for (int k = from + 1; k < spots.size() && spots.get(k)[0] - spots.get(from)[0] <= length; k++) {
            List<int[]> behind = wayFrom(k, spots, total, length, known);
            if (behind != null) {
                List<int[]> way = new ArrayList<>();
                way.add(spots.get(k));
                way.addAll(behind);
                best = isBetter(way, best) ? way : best;
            }
        }
        known.put(from, best);
        return best;
    }

    private static boolean isBetter(List<int[]> way, List<int[]> best) {
        if (best == null || way.size() != best.size()) {
            return best == null || way.size() < best.size();
        }
        int shown = 0;
        for (int k = 0; k < way.size(); k++) {
            shown += way.get(k)[2] - best.get(k)[2];
        }
        for (int k = 0; k < way.size() && shown == 0; k++) {
            if (way.get(k)[0] != best.get(k)[0]) {
                return way.get(k)[0] > best.get(k)[0];
            }
        }
        return shown < 0;
    }
}
