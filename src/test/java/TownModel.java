import java.util.ArrayDeque;
import java.util.ArrayList;
import java.util.Arrays;
import java.util.Collections;
import java.util.Deque;
import java.util.HashMap;
import java.util.HashSet;
import java.util.List;
import java.util.Map;
import java.util.Set;
import java.util.function.Predicate;

/**
 * The document once more, written for plainness alone and in other ways than the class, so that both can be
 * compared: texts by sets of stacks of symbols, laws as trees, searches by trying everything.
 */
final class TownModel {
    static final int NONE = -1;
    private static final Set<String> LAW_WORDS = Set.of("stays", "quarrels", "dulls", "costs");
    private static final List<String> VARS =
        List.of("stuff", "fine", "dull", "rest", "all", "apart", "day", "turns", "most");
    private static final Set<String> WORDS = words();

    private static Set<String> words() {
        Set<String> words = new HashSet<>(VARS);
        words.addAll(LAW_WORDS);
        words.addAll(Set.of("person", "suit", "plate", "thumb", "seed", "if", "then", "else"));
        return words;
    }

    /** An E or a LAW, given what the vars are. */
    private interface Law {
        int of(Map<String, Integer> vars);
    }

    private record Token(String sort, String text, int place) { }

    private record Suit(int one, int other, int every, int first) { }

    private record Hint(int person, int stuff, int v, boolean so) { }

    /** What goes on. */
    private static final class Going {
        int[][] has = new int[0][4];
        int[] in = new int[4];
        int[] puts = new int[0];
        int day;
        int turns;
        int fine = 1;
        int dull;
        int paid;

        Going copy() {
            Going g = new Going();
            g.has = new int[has.length][];
            for (int p = 0; p < has.length; p++) {
                g.has[p] = has[p].clone();
            }
            g.in = in.clone();
            g.puts = puts.clone();
            g.day = day;
            g.turns = turns;
            g.fine = fine;
            g.dull = dull;
            g.paid = paid;
            return g;
        }
    }

    private final StringBuilder tape = new StringBuilder();
    private int place = NONE;
    private List<Suit> suits = new ArrayList<>();
    private Map<String, Law> laws = standardLaws();
    private int thumb = 0;
    private int seed = 0;
    private Going now = new Going();
    private final Deque<Going> done = new ArrayDeque<>();
    private final Going[] slots = new Going[3];
    private final List<Hint> hints = new ArrayList<>();

    private static Map<String, Law> standardLaws() {
        Map<String, Law> laws = new HashMap<>();
        laws.put("stays", v -> 0);
        laws.put("quarrels", v -> v.get("apart"));
        laws.put("dulls", v -> 0);
        laws.put("costs", v -> 1);
        return laws;
    }

    // ---- the tape ----

    int feed(int a, int b, int c, int d, int e) {
        if (tape.length() + 20 > 2000) {
            return NONE;
        }
        for (int word : new int[] {a, b, c, d, e}) {
            for (int i = 3; i >= 0; i--) {
                tape.append((char) (word >> 8 * i & 255));
            }
        }
        return tape.length();
    }

    int back(int n) {
        if (n < 0 || n > tape.length()) {
            return NONE;
        }
        tape.setLength(tape.length() - n);
        return tape.length();
    }

    int place() {
        return place;
    }

    int read() {
        String text = tape.toString();
        tape.setLength(0);
        List<Token> tokens = cut(text);
        int[] fault = faultOfForm(tokens);
        if (fault == null) {
            fault = faultOfTelling(tokens);
        }
        place = fault == null ? NONE : fault[0];
        if (fault == null) {
            takeOver(tokens);
        }
        return fault == null ? 0 : fault[1];
    }

    /** Cut by ways of a regular language: the last token is the end. */
    private static List<Token> cut(String text) {
        List<Token> tokens = new ArrayList<>();
        java.util.regex.Matcher m = java.util.regex.Pattern.compile("[a-z]+|[0-9]+|[;=+\\-*/<()]|[\\t\\n\\r ]+|(?s:.)")
            .matcher(text);
        while (m.find()) {
            String piece = m.group();
            if (piece.matches("[\\t\\n\\r ]+")) {
                continue;
            }
            String sort = "none";
            if (WORDS.contains(piece) || piece.matches("[;=+\\-*/<()]")) {
                sort = piece;
            } else if (piece.matches("[a-z]{1,8}")) {
                sort = "NAME";
            } else if (piece.matches("[0-9]{1,4}")) {
                sort = "INT";
            }
            tokens.add(new Token(sort, piece, m.start()));
        }
        tokens.add(new Token("end", "", text.length()));
        return tokens;
    }

    private static final Map<String, List<List<String>>> GRAMMAR = grammar();

    private static Map<String, List<List<String>>> grammar() {
        Map<String, List<List<String>>> g = new HashMap<>();
        g.put("Text", List.of(List.of("end"), List.of("Tell", "Text")));
        g.put("Tell", List.of(
            List.of("person", "NAME", "INT", "INT", "INT", "INT", ";"),
            List.of("suit", "NAME", "NAME", "INT", "INT", ";"),
            List.of("stays", "Law", ";"), List.of("quarrels", "Law", ";"),
            List.of("dulls", "Law", ";"), List.of("costs", "Law", ";"),
            List.of("plate", "INT", ";"), List.of("thumb", "INT", ";"), List.of("seed", "INT", ";")));
        g.put("Law", List.of(List.of("=", "Ifs", "E")));
        g.put("Ifs", List.of(List.of(), List.of("if", "E", "<", "E", "then", "E", "else", "Ifs")));
        g.put("E", List.of(List.of("Part", "Parts")));
        g.put("Parts", List.of(List.of(), List.of("+", "E"), List.of("-", "E")));
        g.put("Part", List.of(List.of("Unit", "Units")));
        g.put("Units", List.of(List.of(), List.of("*", "Part"), List.of("/", "Part")));
        List<List<String>> units = new ArrayList<>();
        units.add(List.of("INT"));
        units.add(List.of("(", "E", ")"));
        for (String var : VARS) {
            units.add(List.of(var));
        }
        g.put("Unit", units);
        return g;
    }

    /** All stacks of symbols that may be left behind a token, given those ahead of it. */
    private static Set<List<String>> step(Set<List<String>> stacks, String sort) {
        Set<List<String>> behind = new HashSet<>();
        Deque<List<String>> open = new ArrayDeque<>(stacks);
        Set<List<String>> seen = new HashSet<>(stacks);
        while (!open.isEmpty()) {
            List<String> stack = open.pop();
            if (stack.isEmpty()) {
                continue;
            }
            String top = stack.get(0);
            List<String> rest = stack.subList(1, stack.size());
            if (!GRAMMAR.containsKey(top)) {
                if (top.equals(sort)) {
                    behind.add(new ArrayList<>(rest));
                }
                continue;
            }
            for (List<String> way : GRAMMAR.get(top)) {
                List<String> next = new ArrayList<>(way);
                next.addAll(rest);
                if (seen.add(next)) {
                    open.push(next);
                }
            }
        }
        return behind;
    }

    private static int[] faultOfForm(List<Token> tokens) {
        List<int[]> faults = new ArrayList<>();
        Set<List<String>> stacks = Set.of(List.of("Text"));
        for (Token token : tokens) {
            stacks = step(stacks, token.sort);
            if (stacks.isEmpty()) {
                faults.add(new int[] {token.place, 1});
                break;
            }
        }
        int people = 0;
        int suitsTold = 0;
        int ifs = 0;
        int open = 0;
        for (int i = 0; i < tokens.size(); i++) {
            Token token = tokens.get(i);
            boolean full = i >= 400 && !token.sort.equals("end");
            people += token.sort.equals("person") ? 1 : 0;
            suitsTold += token.sort.equals("suit") ? 1 : 0;
            ifs = token.sort.equals(";") ? 0 : ifs + (token.sort.equals("if") ? 1 : 0);
            open += token.sort.equals("(") ? 1 : token.sort.equals(")") ? -1 : 0;
            full |= token.sort.equals("person") && people > 6;
            full |= token.sort.equals("suit") && suitsTold > 8;
            full |= token.sort.equals("if") && ifs > 4;
            full |= token.sort.equals("(") && open > 6;
            if (full) {
                faults.add(new int[] {token.place, 2});
                break;
            }
        }
        return first(faults);
    }

    private static int[] first(List<int[]> faults) {
        return faults.stream().min((x, y) -> x[0] != y[0] ? x[0] - y[0] : x[1] - y[1]).orElse(null);
    }

    private static List<List<Token>> tells(List<Token> tokens) {
        List<List<Token>> tells = new ArrayList<>();
        List<Token> tell = new ArrayList<>();
        for (Token token : tokens) {
            if (token.sort.equals(";")) {
                tells.add(tell);
                tell = new ArrayList<>();
            } else {
                tell.add(token);
            }
        }
        return tells;
    }

    private static void within(List<int[]> faults, Token t, int least, int most) {
        int v = Integer.parseInt(t.text);
        if (v < least || v > most) {
            faults.add(new int[] {t.place, 5});
        }
    }

    private static int[] faultOfTelling(List<Token> tokens) {
        List<int[]> faults = new ArrayList<>();
        List<String> names = new ArrayList<>();
        for (List<Token> tell : tells(tokens)) {
            switch (tell.get(0).sort) {
                case "person" -> {
                    if (names.contains(tell.get(1).text)) {
                        faults.add(new int[] {tell.get(1).place, 3});
                    }
                    names.add(tell.get(1).text);
                    for (int i = 2; i < 6; i++) {
                        within(faults, tell.get(i), 0, 99);
                    }
                }
                case "suit" -> {
                    for (int i = 1; i < 3; i++) {
                        if (!names.contains(tell.get(i).text)) {
                            faults.add(new int[] {tell.get(i).place, 4});
                        }
                    }
                    if (tell.get(1).text.equals(tell.get(2).text)) {
                        faults.add(new int[] {tell.get(2).place, 3});
                    }
                    within(faults, tell.get(3), 1, 30);
                    within(faults, tell.get(4), 0, 29);
                }
                case "plate" -> within(faults, tell.get(1), 1, 9);
                case "thumb" -> within(faults, tell.get(1), 0, 100);
                default -> { }
            }
        }
        return first(faults);
    }

    private void takeOver(List<Token> tokens) {
        List<String> names = new ArrayList<>();
        List<int[]> cases = new ArrayList<>();
        suits = new ArrayList<>();
        laws = standardLaws();
        thumb = 0;
        seed = 0;
        now = new Going();
        for (List<Token> tell : tells(tokens)) {
            String sort = tell.get(0).sort;
            if (LAW_WORDS.contains(sort)) {
                laws.put(sort, law(tell.subList(2, tell.size())));
                continue;
            }
            int last = Integer.parseInt(tell.get(tell.size() - 1).text);
            switch (sort) {
                case "person" -> {
                    names.add(tell.get(1).text);
                    cases.add(tell.subList(2, 6).stream().mapToInt(t -> Integer.parseInt(t.text)).toArray());
                }
                case "suit" -> suits.add(new Suit(names.indexOf(tell.get(1).text), names.indexOf(tell.get(2).text),
                    Integer.parseInt(tell.get(3).text), last));
                case "plate" -> now.fine = last;
                case "thumb" -> thumb = last;
                default -> seed = last;
            }
        }
        now.has = cases.toArray(new int[0][]);
        now.puts = new int[cases.size()];
        done.clear();
        hints.clear();
        Arrays.fill(slots, null);
    }

    private static int find(List<Token> tokens, String sort) {
        for (int i = 0; i < tokens.size(); i++) {
            if (tokens.get(i).sort.equals(sort)) {
                return i;
            }
        }
        return NONE;
    }

    private static Law law(List<Token> tokens) {
        if (!tokens.get(0).sort.equals("if")) {
            return sum(tokens);
        }
        int less = find(tokens, "<");
        int then = find(tokens, "then");
        int other = find(tokens, "else");
        Law left = sum(tokens.subList(1, less));
        Law right = sum(tokens.subList(less + 1, then));
        Law so = sum(tokens.subList(then + 1, other));
        Law otherwise = law(tokens.subList(other + 1, tokens.size()));
        return v -> left.of(v) < right.of(v) ? so.of(v) : otherwise.of(v);
    }

    /** The last of two signs that stands in no brackets; NONE if there is none. */
    private static int lastOf(List<Token> tokens, String one, String other) {
        int open = 0;
        for (int i = tokens.size() - 1; i >= 0; i--) {
            String sort = tokens.get(i).sort;
            open += sort.equals(")") ? 1 : sort.equals("(") ? -1 : 0;
            if (open == 0 && (sort.equals(one) || sort.equals(other))) {
                return i;
            }
        }
        return NONE;
    }

    private static Law sum(List<Token> tokens) {
        int sign = lastOf(tokens, "+", "-");
        if (sign == NONE) {
            sign = lastOf(tokens, "*", "/");
        }
        if (sign == NONE) {
            Token first = tokens.get(0);
            if (first.sort.equals("(")) {
                return sum(tokens.subList(1, tokens.size() - 1));
            }
            if (first.sort.equals("INT")) {
                int value = Integer.parseInt(first.text);
                return v -> value;
            }
            return v -> v.get(first.text);
        }
        Law left = sum(tokens.subList(0, sign));
        Law right = sum(tokens.subList(sign + 1, tokens.size()));
        return switch (tokens.get(sign).sort) {
            case "+" -> v -> (int) ((long) left.of(v) + right.of(v));
            case "-" -> v -> (int) ((long) left.of(v) - right.of(v));
            case "*" -> v -> (int) ((long) left.of(v) * right.of(v));
            default -> v -> {
                long over = left.of(v);
                return (int) (over / right.of(v));
            };
        };
    }

    // ---- laws and days ----

    private int told(String law, Map<String, Integer> vars) {
        try {
            return laws.get(law).of(vars);
        } catch (ArithmeticException dividedByZero) {
            return 0;
        }
    }

    private static int apart(Going g, int a, int b) {
        int sum = 0;
        for (int s = 0; s < 4; s++) {
            sum += Math.abs(g.has[a][s] - g.has[b][s]);
        }
        return sum;
    }

    private static Map<String, Integer> vars(Going g, int a, int b) {
        Map<String, Integer> v = new HashMap<>();
        v.put("fine", g.fine);
        v.put("dull", g.dull);
        v.put("turns", g.turns);
        v.put("day", g.day);
        v.put("apart", apart(g, a, b));
        int which = 0;
        for (int s = 3; s >= 0; s--) {
            if (Math.abs(g.has[a][s] - g.has[b][s]) >= Math.abs(g.has[a][which] - g.has[b][which])) {
                which = s;
            }
        }
        v.put("stuff", which);
        v.put("most", Math.abs(g.has[a][which] - g.has[b][which]));
        v.put("rest", 0);
        v.put("all", 0);
        return v;
    }

    private boolean quarrel(Going g, int a, int b) {
        return told("quarrels", vars(g, a, b)) > 0;
    }

    private int wear(String law, Going g, int a, int b) {
        Map<String, Integer> v = vars(g, a, b);
        v.put("all", Arrays.stream(g.has[a]).sum() + Arrays.stream(g.has[b]).sum());
        v.put("rest", Arrays.stream(g.in).sum());
        return Math.min(99, Math.max(0, told(law, v)));
    }

    private int stays(Going g, int a, int b, int s) {
        Map<String, Integer> v = vars(g, a, b);
        int all = g.has[a][s] + g.has[b][s] + g.in[s];
        v.put("stuff", s);
        v.put("rest", g.in[s]);
        v.put("all", all);
        v.put("most", Math.max(g.has[a][s], g.has[b][s]));
        return Math.min(all, Math.max(0, told("stays", v)));
    }

    private Going put(Going ahead, int a, int b) {
        Going g = ahead.copy();
        for (int s = 0; s < 4; s++) {
            int all = ahead.has[a][s] + ahead.has[b][s] + ahead.in[s];
            int stay = stays(ahead, a, b, s);
            int out = all - stay;
            g.has[a][s] = out / 2;
            g.has[b][s] = out / 2;
            g.in[s] = stay + out % 2;
        }
        g.dull = Math.min(99, ahead.dull + wear("dulls", ahead, a, b));
        g.paid = ahead.paid + wear("costs", ahead, a, b);
        g.turns++;
        g.puts[a]++;
        g.puts[b]++;
        return g;
    }

    static int lot(int n, int seed, int which) {
        long h = seed & 0xffffffffL;
        for (long it : new long[] {161, which & 0xffffffffL}) {
            h = ((h ^ it) * 1103515245L + 12345) & 0xffffffffL;
            h = h ^ h / 32768;
        }
        return (int) (h / 2 % n);
    }

    private static boolean due(Suit suit, int day) {
        for (int d = suit.first; d <= day; d += suit.every) {
            if (d == day) {
                return true;
            }
        }
        return false;
    }

    private Going days(Going from, int n, boolean thumbs, int bySeed) {
        Going g = from;
        for (int i = 0; i < n; i++) {
            for (Suit suit : suits) {
                if (due(suit, g.day) && quarrel(g, suit.one, suit.other)) {
                    g = put(g, suit.one, suit.other);
                }
            }
            g = g.copy();
            if (thumbs && lot(100, bySeed, 4 * g.day) < thumb) {
                g.in[lot(4, bySeed, 4 * g.day + 1)]++;
            }
            g.day++;
        }
        return g;
    }

    // ---- what is so ----

    private boolean isPerson(int p) {
        return p >= 0 && p < now.has.length;
    }

    private boolean two(int a, int b, boolean other) {
        return isPerson(a) && isPerson(b) && a != b && other;
    }

    private static boolean in(int v, int least, int most) {
        return v >= least && v <= most;
    }

    private int foeBits(Going g, int p) {
        int bits = 0;
        for (int q = 0; q < g.has.length; q++) {
            bits += q != p && quarrel(g, p, q) ? 1 << q : 0;
        }
        return bits;
    }

    private List<int[]> pairs() {
        List<int[]> pairs = new ArrayList<>();
        for (int a = 0; a < now.has.length; a++) {
            for (int b = a + 1; b < now.has.length; b++) {
                pairs.add(new int[] {a, b});
            }
        }
        return pairs;
    }

    private int foeCount(Going g) {
        return (int) pairs().stream().filter(p -> quarrel(g, p[0], p[1])).count();
    }

    int person(int person, int what) {
        if (!isPerson(person) || !in(what, 0, 6)) {
            return NONE;
        }
        return what < 4 ? now.has[person][what]
            : what == 4 ? Arrays.stream(now.has[person]).sum()
            : what == 5 ? foeBits(now, person) : now.puts[person];
    }

    int screw(int stuff) {
        return in(stuff, 0, 3) ? now.in[stuff] : NONE;
    }

    int suit(int suit, int what) {
        if (!in(suit, 0, suits.size() - 1) || !in(what, 0, 4)) {
            return NONE;
        }
        Suit s = suits.get(suit);
        return new int[] {s.one, s.other, s.every, s.first, due(s, now.day) ? 1 : 0}[what];
    }

    int tells(int a, int b, int what) {
        if (!two(a, b, in(what, 0, 7))) {
            return NONE;
        }
        return switch (what) {
            case 0 -> quarrel(now, a, b) ? 1 : 0;
            case 1 -> apart(now, a, b);
            case 2 -> wear("dulls", now, a, b);
            case 3 -> wear("costs", now, a, b);
            default -> stays(now, a, b, what - 4);
        };
    }

    private void thing(Going next) {
        done.push(now);
        if (done.size() > 40) {
            done.removeLast();
        }
        now = next;
    }

    int put(int a, int b) {
        if (!two(a, b, true)) {
            return NONE;
        }
        thing(put(now, a, b));
        return now.turns;
    }

    boolean bread(int stuff, int v) {
        if (!in(stuff, 0, 3) || !in(v, 1, 99)) {
            return false;
        }
        Going g = now.copy();
        g.in[stuff] += v;
        thing(g);
        return true;
    }

    private static Going withPlate(Going from, int fine) {
        Going g = from.copy();
        g.fine = fine;
        g.dull = 0;
        return g;
    }

    boolean plate(int fine) {
        if (!in(fine, 1, 9) || now.fine == fine && now.dull == 0) {
            return false;
        }
        thing(withPlate(now, fine));
        return true;
    }

    int wash() {
        int gone = Arrays.stream(now.in).sum();
        Going g = now.copy();
        g.in = new int[4];
        thing(g);
        return gone;
    }

    int days(int n) {
        if (!in(n, 0, 60)) {
            return NONE;
        }
        if (n > 0) {
            thing(days(now, n, true, seed));
        }
        return now.day;
    }

    boolean undo() {
        if (done.isEmpty()) {
            return false;
        }
        now = done.pop();
        return true;
    }

    // ---- what would be ----

    private List<List<int[]>> rowsOf(int turns) {
        List<List<int[]>> rows = new ArrayList<>();
        rows.add(List.of());
        for (int i = 0; i < turns; i++) {
            List<List<int[]>> longer = new ArrayList<>();
            for (List<int[]> row : rows) {
                for (int[] pair : pairs()) {
                    List<int[]> next = new ArrayList<>(row);
                    next.add(pair);
                    longer.add(next);
                }
            }
            rows = longer;
        }
        return rows;
    }

    private int row(int i, Predicate<Going> so) {
        for (int turns = 0; turns <= 3; turns++) {
            for (List<int[]> row : rowsOf(turns)) {
                Going g = now;
                for (int[] pair : row) {
                    g = put(g, pair[0], pair[1]);
                }
                if (so.test(g)) {
                    return i == NONE ? turns : i < turns ? 10 * row.get(i)[0] + row.get(i)[1] : NONE;
                }
            }
        }
        return -2;
    }

    int calm(int i) {
        return in(i, -1, 2) ? row(i, g -> foeCount(g) == 0) : NONE;
    }

    int rich(int person, int stuff, int v, int i) {
        if (!isPerson(person) || !in(stuff, 0, 3) || !in(v, 0, 999) || !in(i, -1, 2)) {
            return NONE;
        }
        return row(i, g -> g.has[person][stuff] >= v);
    }

    int alike(int a, int b, int i) {
        return two(a, b, in(i, -1, 2)) ? row(i, g -> Arrays.equals(g.has[a], g.has[b])) : NONE;
    }

    /** Of those (two and a number), the first with the least number: by what, the two or the number. */
    private static int least(List<int[]> rated, int what) {
        if (!in(what, 0, 1)) {
            return NONE;
        }
        return rated.stream().min((x, y) -> Integer.compare(x[1], y[1])).map(x -> x[what]).orElse(-2);
    }

    int best(int what) {
        List<int[]> rated = new ArrayList<>();
        for (int[] p : pairs()) {
            rated.add(new int[] {10 * p[0] + p[1], foeCount(put(now, p[0], p[1]))});
        }
        return least(rated, what);
    }

    int gain(int a, int b, int stuff) {
        return two(a, b, in(stuff, 0, 3)) ? put(now, a, b).has[a][stuff] - now.has[a][stuff] : -100000;
    }

    int plates(int a, int b, int what) {
        if (!two(a, b, in(what, 0, 1))) {
            return NONE;
        }
        List<int[]> rated = new ArrayList<>();
        for (int fine = 1; fine <= 9; fine++) {
            rated.add(new int[] {fine, Arrays.stream(put(withPlate(now, fine), a, b).in).sum()});
        }
        return least(rated, what);
    }

    int crumbs(int a, int b, int stuff, int v) {
        if (!two(a, b, in(stuff, 0, 3) && in(v, 0, 999))) {
            return NONE;
        }
        for (int crumb = 0; crumb <= 99; crumb++) {
            Going g = now.copy();
            g.in[stuff] += crumb;
            g = put(g, a, b);
            if (g.has[a][stuff] >= v && g.has[b][stuff] >= v) {
                return crumb;
            }
        }
        return -2;
    }

    int poorest(int what) {
        List<int[]> rated = new ArrayList<>();
        for (int p = 0; p < now.has.length; p++) {
            rated.add(new int[] {p, Arrays.stream(now.has[p]).sum()});
        }
        return least(rated, what);
    }

    int foes(int what) {
        if (what == 0) {
            return foeCount(now);
        }
        return what == 1 ? pairs().stream().filter(p -> quarrel(now, p[0], p[1])).map(p -> 10 * p[0] + p[1])
            .findFirst().orElse(-2) : NONE;
    }

    int peace(int what) {
        List<int[]> rated = new ArrayList<>();
        for (int gone = 0; gone < 1 << now.has.length; gone++) {
            int away = gone;
            boolean calm = pairs().stream()
                .noneMatch(p -> quarrel(now, p[0], p[1]) && (away >> p[0] & 1) == 0 && (away >> p[1] & 1) == 0);
            if (calm) {
                rated.add(new int[] {gone, Integer.bitCount(gone)});
            }
        }
        return in(what, 0, 1) ? least(rated, 1 - what) : NONE;
    }

    /** All ways to pair some, each with whom everybody is (NONE: nobody). */
    private void pairings(List<int[]> pairs, int from, int[] with, List<int[]> all) {
        if (from == pairs.size()) {
            all.add(with.clone());
            return;
        }
        pairings(pairs, from + 1, with, all);
        int[] p = pairs.get(from);
        if (with[p[0]] == NONE && with[p[1]] == NONE && quarrel(now, p[0], p[1])) {
            int[] more = with.clone();
            more[p[0]] = p[1];
            more[p[1]] = p[0];
            pairings(pairs, from + 1, more, all);
        }
    }

    int paired(int i) {
        if (i != NONE && !isPerson(i)) {
            return NONE;
        }
        int[] alone = new int[now.has.length];
        Arrays.fill(alone, NONE);
        List<int[]> all = new ArrayList<>();
        pairings(pairs(), 0, alone, all);
        long most = all.stream().mapToLong(w -> Arrays.stream(w).filter(q -> q != NONE).count()).max().orElse(0);
        all.removeIf(w -> Arrays.stream(w).filter(q -> q != NONE).count() < most);
        int[] first = Collections.min(all, Arrays::compare);
        return i == NONE ? (int) most / 2 : first[i] == NONE ? -2 : first[i];
    }

    int most(int stuff, int what) {
        if (!in(stuff, 0, 3) || !in(what, 0, 1)) {
            return NONE;
        }
        List<int[]> rated = new ArrayList<>();
        for (int p = 0; p < now.has.length; p++) {
            rated.add(new int[] {p, -now.has[p][stuff]});
        }
        int answer = least(rated, what);
        return what == 1 && !rated.isEmpty() ? -answer : answer;
    }

    int likest(int what) {
        List<int[]> rated = new ArrayList<>();
        for (int[] p : pairs()) {
            rated.add(new int[] {10 * p[0] + p[1], apart(now, p[0], p[1])});
        }
        return least(rated, what);
    }

    int fair(int stuff) {
        if (!in(stuff, 0, 3)) {
            return NONE;
        }
        int[] sorted = Arrays.stream(now.has).mapToInt(h -> h[stuff]).sorted().toArray();
        return sorted.length == 0 ? 0 : sorted[sorted.length - 1] - sorted[0];
    }

    int ends() {
        Going g = now;
        for (int n = 0; n <= 200; n++) {
            Going then = g;
            if (suits.stream().noneMatch(s -> quarrel(then, s.one, s.other))) {
                return n;
            }
            g = days(g, 1, false, 0);
        }
        return -2;
    }

    int bill(int n) {
        return in(n, 0, 60) ? days(now, n, false, 0).paid - now.paid : NONE;
    }

    int then(int person, int stuff, int n) {
        if (person != NONE && !isPerson(person) || !in(stuff, 0, 3) || !in(n, 0, 60)) {
            return NONE;
        }
        Going g = days(now, n, true, seed);
        return person == NONE ? g.in[stuff] : g.has[person][stuff];
    }

    int foesIn(int person, int n) {
        return isPerson(person) && in(n, 0, 60) ? foeBits(days(now, n, true, seed), person) : NONE;
    }

    int turnsIn(int n) {
        return in(n, 0, 60) ? days(now, n, true, seed).turns : NONE;
    }

    int year(int a, int b, int n, int s) {
        if (!two(a, b, in(n, 0, 60) && in(s, 1, 20))) {
            return NONE;
        }
        int years = 0;
        for (int i = 0; i < s; i++) {
            years += quarrel(days(now, n, true, seed + i), a, b) ? 1 : 0;
        }
        return years;
    }

    // ---- what is told ----

    int tell(int person, int stuff, int v, boolean so) {
        if (hints.size() == 20 || !isPerson(person) || !in(stuff, 0, 3) || !in(v, 0, 999)) {
            return NONE;
        }
        hints.add(new Hint(person, stuff, v, so));
        return hints.size() - 1;
    }

    int forget() {
        int were = hints.size();
        hints.clear();
        return were;
    }

    private List<int[]> left(List<Hint> known) {
        List<int[]> left = pairs();
        left.removeIf(p -> {
            Going g = put(now, p[0], p[1]);
            return known.stream().anyMatch(h -> g.has[h.person][h.stuff] >= h.v != h.so);
        });
        return left;
    }

    int two(int k, int i) {
        if (!in(k, 0, hints.size()) || i < NONE) {
            return NONE;
        }
        List<int[]> left = left(hints.subList(0, k));
        return i == NONE ? left.size() : i < left.size() ? 10 * left.get(i)[0] + left.get(i)[1] : NONE;
    }

    int ask(int k, int v) {
        if (!in(k, 0, hints.size()) || !in(v, 0, 999)) {
            return NONE;
        }
        List<int[]> rated = new ArrayList<>();
        for (int p = 0; p < now.has.length && !left(hints.subList(0, k)).isEmpty(); p++) {
            for (int s = 0; s < 4; s++) {
                List<Hint> so = new ArrayList<>(hints.subList(0, k));
                List<Hint> not = new ArrayList<>(so);
                so.add(new Hint(p, s, v, true));
                not.add(new Hint(p, s, v, false));
                rated.add(new int[] {10 * p + s, Math.max(left(so).size(), left(not).size())});
            }
        }
        return least(rated, 0);
    }

    // ---- slots and counts ----

    boolean hold(int slot) {
        if (!in(slot, 0, 2)) {
            return false;
        }
        slots[slot] = now;
        return true;
    }

    boolean restore(int slot) {
        if (!in(slot, 0, 2) || slots[slot] == null) {
            return false;
        }
        now = slots[slot];
        done.clear();
        return true;
    }

    int count(int what) {
        int bits = 0;
        switch (what) {
            case 0: return now.has.length;
            case 1: return suits.size();
            case 2: return now.day;
            case 3: return now.turns;
            case 4: return now.fine;
            case 5: return now.dull;
            case 6: return Arrays.stream(now.in).sum();
            case 7: return now.paid;
            case 8: return tape.length();
            case 9: return done.size();
            case 10: return hints.size();
            case 11: return (int) Arrays.stream(slots).filter(s -> s != null).count();
            case 12: return lot(100, seed, 4 * now.day) < thumb ? 1 : 0;
            case 13: return Arrays.stream(now.has).flatMapToInt(Arrays::stream).sum();
            case 14:
                for (int[] p : pairs()) {
                    bits |= quarrel(now, p[0], p[1]) ? 1 << p[0] | 1 << p[1] : 0;
                }
                return bits;
            case 15:
                for (int s = 0; s < 4; s++) {
                    bits |= now.in[s] > 0 ? 1 << s : 0;
                }
                return bits;
            case 16:
                for (int s = 0; s < suits.size(); s++) {
                    bits |= due(suits.get(s), now.day) ? 1 << s : 0;
                }
                return bits;
            default: return NONE;
        }
    }
}
