import java.util.ArrayDeque;
import java.util.ArrayList;
import java.util.Deque;
import java.util.HashMap;
import java.util.HashSet;
import java.util.List;
import java.util.Map;
import java.util.Set;
import java.util.regex.Matcher;
import java.util.regex.Pattern;

/**
 * The document's texts as a table of rules and a stack of what is still to come: their first FAULT and its place.
 * Told apart from the program's reader on purpose. In the rules ^ stands ahead of what opens, % where that is closed
 * again, # ahead of a number, $ ahead of a NAME, @ ahead of something to be looked at between words.
 */
final class Grammar {
    private static final String[] ROOM = {
        "ROOM: @first bobbin LENGTH LENGTHS @odds ; REST",
        "LENGTH: @length lasts #yards odds #odds",
        "LENGTHS: LENGTH LENGTHS |",
        "REST: @end | @statement STATEMENT ; REST",
        "STATEMENT: @seam seam $seam takes #takes SHOWN ANEW @sewn | @rule rule $rule when TEST @ruled | wind #0-99"
            + " | mend #0-99 | look #0-99 | batch #0-99 | ahead #1-9 | girls #1-3",
        "SHOWN: shown |",
        "ANEW: anew #place PLACES |",
        "PLACES: #place PLACES |",
        "WORD: shown | used | takes | number | rest | least | most"
    };
    private static final String[] QUESTION = {
        "ROOM: ASKED @end",
        "ASKED: first TEST | last TEST | often TEST | total SUM | most SUM | least SUM",
        "WORD: takes | shown | used | left | changed | mended | number | ^yards PART %"
    };
    private static final String[] BOTH = {
        "TEST: AND OR",
        "OR: or AND OR |",
        "AND: FACT ANDS",
        "ANDS: and FACT ANDS |",
        "FACT: ^not FACT % | ^[ TEST ] % | all | SUM SIGN SUM",
        "SIGN: < | > | =",
        "SUM: PRODUCT SUMS",
        "SUMS: + PRODUCT SUMS | - PRODUCT SUMS |",
        "PRODUCT: PART PARTS",
        "PARTS: * PART PARTS | / PART PARTS |",
        "PART: #0-9999 | WORD | ^( SUM ) % | min PAIR | max PAIR",
        "PAIR: ^( SUM , SUM ) %"
    };
    private static final Set<String> OWN = Set.of(("bobbin lasts odds seam takes shown anew rule when wind mend look "
        + "batch ahead girls used rest number least most left changed mended yards or and not all min max").split(" "));
    private static final Pattern TOKEN = Pattern.compile("[a-z]+|[0-9]+|[^ \n]", Pattern.DOTALL);

    int fault;
    int place = -1;

    private final Map<String, List<String[]>> rules = new HashMap<>();
    private final List<String> tokens = new ArrayList<>();
    private final List<Integer> starts = new ArrayList<>();
    private final List<Boolean> glued = new ArrayList<>();
    private int at;
    private int open;
    private int statements;
    private int sum;
    private int oddsAt;
    private int seams;
    private int ruleCount;
    private int takes;
    private int places;
    private int before;
    private final Set<Integer> yards = new HashSet<>();
    private final Set<String> names = new HashSet<>();

    Grammar(String text, boolean asks) {
        tell(BOTH);
        tell(asks ? QUESTION : ROOM);
        Matcher matcher = TOKEN.matcher(text);
        int end = -1;
        while (matcher.find()) {
            boolean whole = Character.isLetterOrDigit(matcher.group().charAt(0)) && matcher.group().charAt(0) < 128;
            glued.add(whole && end == matcher.start());
            tokens.add(matcher.group());
            starts.add(matcher.start());
            end = whole ? matcher.end() : -1;
        }
        tokens.add("");
        starts.add(text.length());
        glued.add(false);
        run();
    }

    private void tell(String[] lines) {
        for (String line : lines) {
            int colon = line.indexOf(':');
            List<String[]> ways = new ArrayList<>();
            for (String way : line.substring(colon + 1).split("\\|", -1)) {
                ways.add(way.isBlank() ? new String[0] : way.trim().split(" "));
            }
            rules.put(line.substring(0, colon), ways);
        }
    }

    private String next() {
        return tokens.get(at);
    }

    private boolean isNumber() {
        return !next().isEmpty() && next().charAt(0) >= '0' && next().charAt(0) <= '9';
    }

    private boolean isLetters() {
        return !next().isEmpty() && next().charAt(0) >= 'a' && next().charAt(0) <= 'z';
    }

    private void fail(int what, int where) {
        if (fault == 0) {
            fault = what;
            place = where;
        }
    }

    private void run() {
        Deque<String> todo = new ArrayDeque<>();
        todo.push("ROOM");
        while (!todo.isEmpty() && fault == 0) {
            String symbol = todo.pop();
            if (!rules.containsKey(symbol)) {
                meet(symbol);
                continue;
            }
            String[] way = wayOf(symbol);
            if (way == null) {
                fail(1, starts.get(at));
                continue;
            }
            for (int k = way.length - 1; k >= 0; k--) {
                todo.push(way[k]);
            }
        }
    }

    private String[] wayOf(String symbol) {
        for (String[] way : rules.get(symbol)) {
            if (way.length == 0 || begins(way)) {
                return way;
            }
        }
        return null;
    }

    private boolean begins(String[] way) {
        String symbol = way[0];
        if (symbol.equals("@end")) {
            return next().isEmpty();
        }
        // A 61st statement and an empty text are looked at ahead of their words.
        if (symbol.equals("@statement") || symbol.equals("@first")) {
            return true;
        }
        if (symbol.charAt(0) == '@') {
            symbol = way[1];
        }
        if (rules.containsKey(symbol)) {
            return rules.get(symbol).stream().anyMatch(other -> other.length > 0 && begins(other));
        }
        return !glued.get(at) && (symbol.charAt(0) == '#' ? isNumber() : next().equals(wordOf(symbol)));
    }

    private static String wordOf(String symbol) {
        return symbol.length() > 1 && symbol.charAt(0) == '^' ? symbol.substring(1) : symbol;
    }

    private void meet(String symbol) {
        switch (symbol.charAt(0)) {
            case '@': look(symbol.substring(1)); return;
            case '%': open--; return;
            case '#': number(symbol.substring(1)); return;
            case '$': name(symbol.substring(1)); return;
            default: break;
        }
        if (glued.get(at) || !next().equals(wordOf(symbol))) {
            fail(1, starts.get(at));
            return;
        }
        if (symbol.charAt(0) == '^') {
            open++;
            if (open > 6) {
                fail(4, starts.get(at));
            }
        }
        at++;
    }

    private void look(String what) {
        int here = starts.get(at);
        switch (what) {
            case "first": statements = 1; break;
            case "statement":
                statements++;
                if (statements > 60) {
                    fail(5, here);
                }
                break;
            case "length":
                if (yards.size() == 6) {
                    fail(5, here);
                }
                break;
            case "odds":
                if (sum < 100) {
                    fail(2, oddsAt);
                }
                break;
            case "seam":
                places = 0;
                before = 0;
                if (seams == 10) {
                    fail(5, here);
                }
                break;
            case "sewn": seams++; break;
            case "rule":
                if (ruleCount == 4) {
                    fail(5, here);
                }
                break;
            case "ruled": ruleCount++; break;
            default:
                if (!next().isEmpty()) {
                    fail(1, here);
                }
        }
    }

    private void number(String what) {
        int here = starts.get(at);
        if (what.equals("place") && places == 4) {
            fail(5, here);
        }
        if (!isNumber() || glued.get(at)) {
            fail(1, here);
            return;
        }
        if (next().length() > 4) {
            fail(1, here + 4);
            return;
        }
        int n = Integer.parseInt(next());
        boolean can;
        switch (what) {
            case "yards": can = n >= 1 && n <= 99 && yards.add(n); break;
            case "odds": can = n >= 1 && sum + n <= 100; sum += n; oddsAt = here; break;
            case "takes": can = n >= 1 && n <= 99; takes = n; break;
            case "place": can = n > before && n < takes; before = n; places++; break;
            default:
                String[] ends = what.split("-");
                can = n >= Integer.parseInt(ends[0]) && n <= Integer.parseInt(ends[1]);
        }
        if (!can) {
            fail(2, here);
        }
        at++;
    }

    private void name(String what) {
        int here = starts.get(at);
        if (!isLetters() || glued.get(at) || OWN.contains(next())) {
            fail(1, here);
        } else if (next().length() > 6) {
            fail(1, here + 6);
        } else if (!names.add(next())) {
            fail(3, here);
        }
        at++;
    }
}
