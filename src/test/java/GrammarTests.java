import java.util.ArrayList;
import java.util.List;
import java.util.Random;
import java.util.regex.Matcher;
import java.util.regex.Pattern;

/** Texts spoilt by chance: the program's FAULT and its place against those that the table of rules finds. */
final class GrammarTests {
    private static final Pattern PIECE = Pattern.compile("[a-z]+|[0-9]+|[ \n]+|[^ \n]", Pattern.DOTALL);
    private static final String[] PIECES = ("bobbin lasts odds seam takes shown anew rule when wind mend look batch ahead "
        + "girls used rest number least most left changed mended yards or and not all min max first last often total "
        + "a b c hem abcdef abcdefg lastsx allx 0 1 2 3 5 9 10 49 50 99 100 101 1234 12345 00005 ( ) [ ] < > = + - * / "
        + ", ; A \u0001 \u00e9 50lasts 5odds 3shown used3 3and 3or notall ;; [[ (( ]] )) min(1,2)").split(" ");
    private static final String[] ASKED = {"takes", "shown", "used", "left", "changed", "mended", "number"};
    private static final int[] told = new int[6];

    public static void main(String[] args) {
        for (int seed = 0; seed < 1200; seed++) {
            Model m = new Model(seed, seed % 11);
            Random random = new Random(seed);
            for (int n = 0; n < 40; n++) {
                boolean asks = n % 4 == 3;
                String text = spoilt(asks ? question(m) : longer(m.text, random), random, n % 3 + (n > 2 ? 1 : 0));
                if (text.length() <= 1600) {
                    hold(text, asks);
                }
            }
        }
        for (int fault = 0; fault < told.length; fault++) {
            Checks.due("texts with fault " + fault + ": " + told[fault] + ", so some hundred", told[fault] >= 100, true);
        }
        Checks.end("GrammarTests");
    }

    private static void hold(String text, boolean asks) {
        Grammar due = new Grammar(text, asks);
        BelowThread x = asks ? Checks.in(Checks.BIG) : new BelowThread();
        long answer = asks ? Checks.ask(x, 1, 20, text) : Checks.room(x, text);
        Checks.due("fault of '" + text + "'", x.fault(0), due.fault);
        Checks.due("place of '" + text + "'", x.fault(1), due.place);
        Checks.due("'" + text + "' refused", answer == (asks ? BelowThread.NOTHING : -1), due.fault != 0);
        told[due.fault]++;
    }

    private static String question(Model m) {
        return m.random.nextBoolean() ? "often " + m.test(0, ASKED, true).text() : "most " + m.sum(0, ASKED, true).text();
    }

    /** Now and then so many statements more that there may be one too many. */
    private static String longer(String text, Random random) {
        StringBuilder out = new StringBuilder(text);
        for (int n = random.nextInt(6) == 0 ? 50 + random.nextInt(15) : 0; n > 0; n--) {
            out.append("wind ").append(random.nextInt(100)).append(';');
        }
        // Statements told again: NAMES that are there already, one SEAM or RULE too many.
        String[] stood = text.split(";");
        for (int n = random.nextInt(4) == 0 ? random.nextInt(8) : 0; n > 0; n--) {
            String again = stood[random.nextInt(stood.length)].trim();
            boolean renamed = random.nextInt(6) > 0 && !again.isBlank();
            out.append(renamed ? again.replaceFirst(" [a-z]+ ", " x" + (char) ('a' + n) + " ") : again).append(';');
        }
        if (random.nextInt(4) == 0) {
            String[] open = {"not ", "[", "min(1,(", "yards ", "(2+"};
            out.append("rule zz when ");
            for (int n = 4 + random.nextInt(4); n > 0; n--) {
                out.append(open[random.nextInt(random.nextInt(3) + 1)]);
            }
            out.append("all");
        }
        return out.toString();
    }

    private static String spoilt(String text, Random random, int times) {
        List<String> pieces = new ArrayList<>();
        Matcher matcher = PIECE.matcher(text);
        while (matcher.find()) {
            pieces.add(matcher.group());
        }
        for (int n = 0; n < times && !pieces.isEmpty(); n++) {
            // Often near the front, where the lengths are.
            int k = random.nextInt(random.nextInt(3) == 0 ? Math.min(30, pieces.size()) : pieces.size());
            String any = PIECES[random.nextInt(PIECES.length)];
            switch (random.nextInt(9)) {
                case 0: pieces.remove(k); break;
                case 1: pieces.add(k, any); break;
                case 2: pieces.set(k, any); break;
                case 3: pieces.add(k, pieces.get(random.nextInt(pieces.size()))); break;
                case 4: pieces.set(k, pieces.get(random.nextInt(pieces.size()))); break;
                case 5: pieces.add(k, " " + any + " "); break;
                case 6: pieces.addAll(pieces.subList(k, Math.min(pieces.size(), k + 9)).stream().toList()); break;
                case 7: pieces.set(k, pieces.get(k).substring(random.nextInt(pieces.get(k).length()))); break;
                default:
                    if (random.nextInt(3) == 0) {
                        pieces.subList(k, pieces.size()).clear();
                    } else {
                        unspace(pieces, k);
                    }
            }
        }
        return String.join("", pieces);
    }

    /** Takes the first blank from a piece on. */
    private static void unspace(List<String> pieces, int from) {
        for (int k = from; k < pieces.size(); k++) {
            if (pieces.get(k).isBlank()) {
                pieces.remove(k);
                return;
            }
        }
    }
}
