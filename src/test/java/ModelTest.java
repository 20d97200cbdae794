import java.util.Random;

/** Runs of random calls, whose answers must be those of TownModel; random texts, faulty ones too. */
public final class ModelTest {
    private static final Checks CHECKS = new Checks();
    private static final String[] NAMES = {"a", "b", "aa", "ba", "bobby", "zzzzzzzz", "zzzzzzzy", "z"};
    private static final String[] VARS = {"stuff", "fine", "dull", "rest", "all", "apart", "day", "turns", "most"};
    private static final String[] LAWS = {"stays", "quarrels", "dulls", "costs"};

    private final Random random;
    private final MincedCases x = new MincedCases();
    private final TownModel m = new TownModel();
    private final StringBuilder told = new StringBuilder();
    private final boolean dear;

    private ModelTest(long seed, boolean dear) {
        random = new Random(seed);
        this.dear = dear;
    }

    public static void main(String[] args) {
        int runs = args.length > 0 ? Integer.parseInt(args[0]) : 1500;
        for (int run = 0; run < runs && CHECKS.allRight(); run++) {
            new ModelTest(run, run % 10 == 0).run();
        }
        for (int run = 0; run < runs * 2 && CHECKS.allRight(); run++) {
            new ModelTest(-1 - run, false).readOnly();
        }
        CHECKS.end();
    }

    private void run() {
        for (int round = 0; round < 4 && CHECKS.allRight(); round++) {
            feedAndRead(random.nextInt(6) == 0 ? spoiled(text()) : text());
            int calls = 10 + random.nextInt(80);
            for (int i = 0; i < calls; i++) {
                call();
            }
        }
        look();
    }

    private void readOnly() {
        String text = text();
        int times = 1 + random.nextInt(3);
        for (int i = 0; i < times; i++) {
            text = spoiled(text);
        }
        feedAndRead(text);
        look();
    }

    // ---- texts ----

    private int below(int n) {
        return random.nextInt(n);
    }

    private String one(String... of) {
        return of[below(of.length)];
    }

    private String blank() {
        return one(" ", " ", " ", "  ", "\n", "\t", " \r\n");
    }

    private String maybe() {
        return below(3) == 0 ? blank() : "";
    }

    private String text() {
        StringBuilder text = new StringBuilder();
        int people = below(12) == 0 ? below(8) : 2 + below(dear ? 3 : 5);
        int range = new int[] {3, 10, 30, 100}[below(4)];
        for (int p = 0; p < people; p++) {
            String name = below(60) == 0 ? one(NAMES) : NAMES[p % NAMES.length];
            text.append("person").append(blank()).append(name);
            for (int s = 0; s < 4; s++) {
                text.append(blank()).append(below(80) == 0 ? below(200) : below(range));
            }
            text.append(maybe()).append(";").append(maybe());
        }
        int suits = people < 2 ? below(20) / 19 : below(10) == 0 ? below(10) : below(5);
        for (int s = 0; s < suits; s++) {
            int a = below(Math.max(1, people));
            int b = people > 1 && below(60) != 0 ? (a + 1 + below(people - 1)) % people : below(NAMES.length);
            text.append("suit").append(blank()).append(NAMES[a]).append(blank()).append(NAMES[b]).append(blank())
                .append(below(40) == 0 ? below(40) : 1 + below(5)).append(blank())
                .append(below(40) == 0 ? below(40) : below(4)).append(maybe()).append(";").append(maybe());
        }
        int more = below(7);
        for (int i = 0; i < more; i++) {
            switch (below(8)) {
                case 0 -> text.append("plate ").append(below(30) == 0 ? below(12) : 1 + below(9)).append(";");
                case 1 -> text.append("thumb ").append(below(30) == 0 ? below(120) : below(101)).append(";");
                case 2 -> text.append("seed ").append(below(10000)).append(";");
                default -> text.append(law()).append(maybe()).append(";").append(maybe());
            }
        }
        return text.length() <= 2000 ? text.toString() : text.substring(0, 2000);
    }

    private String law() {
        if (below(3) > 0) {
            int k = 1 + below(30);
            return one("quarrels = apart - " + k, "quarrels = most - " + k, "quarrels=apart-dull*2-" + k, "stays = all / " + k,
                "stays = all / 10 / fine", "stays = rest", "stays = rest + stuff", "stays = most / 2", "stays = most - rest",
                "stays = apart / " + k, "stays = all - " + k, "dulls = " + below(12), "dulls = apart / 10", "dulls = rest + fine",
                "costs = all", "costs = rest * 2", "costs = apart / " + k + " + turns", "costs = dull + day",
                "costs = stuff * 10 + most", "stays = if dull < 3 then rest else all / 2", "quarrels = if day < 2 then 1 else most - 2",
                "quarrels = (turns - 2) * (day - 1)", "stays = if turns < 1 then 4 else 0", "quarrels = stuff - 1",
                "quarrels = rest + all - apart + 20", "stays = fine / dull", "quarrels = 10 / (apart - " + k + ")");
        }
        StringBuilder law = new StringBuilder(one(LAWS)).append(maybe()).append("=").append(maybe());
        int ifs = below(10) == 0 ? below(6) : below(3);
        for (int i = 0; i < ifs; i++) {
            law.append("if ").append(e(2)).append(maybe()).append("<").append(maybe()).append(e(2)).append(" then ")
                .append(e(2)).append(" else ");
        }
        return law.append(e(below(20) == 0 ? 8 : 3)).toString();
    }

    private String e(int depth) {
        StringBuilder e = new StringBuilder(unit(depth));
        int more = below(3);
        for (int i = 0; i < more; i++) {
            e.append(maybe()).append(one("+", "-", "*", "/")).append(maybe()).append(unit(depth));
        }
        return e.toString();
    }

    private String unit(int depth) {
        if (depth > 0 && below(depth > 3 ? 2 : 4) == 0) {
            return "(" + maybe() + e(depth - 1) + maybe() + ")";
        }
        return below(2) == 0 ? one(VARS) : Integer.toString(below(5) == 0 ? below(10000) : below(20));
    }

    private String spoiled(String text) {
        if (text.isEmpty()) {
            return one("#", ";", "", "person");
        }
        int at = below(text.length());
        int to = Math.min(text.length(), at + 1 + below(6));
        String piece = one(";", "(", ")", " ", "1", "12345", "100", "x", "day", "if ", "((((((1))))))", "+", "=", "<", "then", "A",
            "\u00e9", "\u0000", "person a 1 1 1 1;", "suit a b 1 1;", "abcdefghi", "plate 1;", "seed 3;".repeat(130));
        String spoiled = switch (below(4)) {
            case 0 -> text.substring(0, at) + piece + text.substring(at);
            case 1 -> text.substring(0, at) + text.substring(to);
            case 2 -> text.substring(0, at);
            default -> text.substring(0, at) + piece + text.substring(to);
        };
        return spoiled.length() <= 2000 ? spoiled : spoiled.substring(0, 2000);
    }

    private void feedAndRead(String text) {
        byte[] bytes = text.getBytes(java.nio.charset.StandardCharsets.ISO_8859_1);
        due("back", x.back(x.count(8)), m.back(m.count(8)));
        int whole = (bytes.length + 19) / 20 * 20;
        for (int at = 0; at < whole; at += 20) {
            int[] w = new int[5];
            for (int i = 0; i < 5; i++) {
                w[i] = Checks.word(bytes, at + 4 * i);
            }
            due("feed", x.feed(w[0], w[1], w[2], w[3], w[4]), m.feed(w[0], w[1], w[2], w[3], w[4]));
        }
        due("back", x.back(whole - bytes.length), m.back(whole - bytes.length));
        told.append("\nread ").append(text).append("\n");
        due("read", x.read(), m.read());
        due("place", x.place(), m.place());
    }

    // ---- calls ----

    private void due(String call, long got, long want) {
        told.append(call).append(" ");
        if (got != want) {
            CHECKS.due(told + "<<" + call + ">>", got, want);
        } else {
            CHECKS.due(call, got, want);
        }
    }

    private void due(String call, boolean got, boolean want) {
        due(call, got ? 1 : 0, want ? 1 : 0);
    }

    private int odd() {
        return new int[] {-2, -1, 6, 7, 1000, -1000, Integer.MIN_VALUE, Integer.MAX_VALUE}[below(8)];
    }

    private int person() {
        return below(40) == 0 ? odd() : below(25) == 0 ? below(7) : below(Math.max(1, x.count(0)));
    }

    private int stuff() {
        return below(40) == 0 ? odd() : below(40) == 0 ? below(6) : below(4);
    }

    private int what(int most) {
        return below(30) == 0 ? odd() : below(most + 2);
    }

    private int amount() {
        return below(40) == 0 ? odd() : below(30) == 0 ? new int[] {999, 1000, 0}[below(3)] : below(below(2) == 0 ? 12 : 80);
    }

    private int days() {
        return below(40) == 0 ? odd() : below(15) == 0 ? 58 + below(5) : below(12);
    }

    private void call() {
        if (below(5) < 2) {
            act();
        } else if (below(4) == 0) {
            guess();
        } else if (below(dear ? 3 : 60) == 0 && (dear || x.count(0) < 5)) {
            rows();
        } else if (below(2) == 0) {
            looks();
        } else {
            wouldBe();
        }
    }

    private void act() {
        int a = person();
        int b = person();
        int s = stuff();
        int v = below(20) == 0 ? amount() : 1 + below(20);
        int n = days();
        int slot = below(20) == 0 ? odd() : below(4);
        switch (below(12)) {
            case 0, 1, 2 -> due("put(" + a + ", " + b + ")", x.put(a, b), m.put(a, b));
            case 3, 4 -> due("bread(" + s + ", " + v + ")", x.bread(s, v), m.bread(s, v));
            case 5 -> due("plate(" + v + ")", x.plate(v), m.plate(v));
            case 6 -> due("wash()", x.wash(), m.wash());
            case 7, 8 -> due("days(" + n + ")", x.days(n), m.days(n));
            case 9 -> due("hold(" + slot + ")", x.hold(slot), m.hold(slot));
            case 10 -> restoreAtTimes(slot);
            default -> undoSome();
        }
    }

    private void restoreAtTimes(int slot) {
        if (below(3) == 0) {
            due("restore(" + slot + ")", x.restore(slot), m.restore(slot));
        }
    }

    private void undoSome() {
        int times = below(20) == 0 ? 45 : 1 + below(3);
        for (int i = 0; i < times; i++) {
            due("undo()", x.undo(), m.undo());
        }
    }

    private void guess() {
        int p = person();
        int s = stuff();
        int v = amount();
        boolean so = below(2) == 0;
        int k = below(10) == 0 ? odd() : below(x.count(10) + 2);
        int i = below(16) - 1;
        switch (below(10)) {
            case 0 -> forgetAtTimes();
            case 1, 2, 3 -> due("tell(" + p + ", " + s + ", " + v + ", " + so + ")", x.tell(p, s, v, so), m.tell(p, s, v, so));
            case 4, 5 -> due("two(" + k + ", -1)", x.two(k, -1), m.two(k, -1));
            case 6, 7 -> due("two(" + k + ", " + i + ")", x.two(k, i), m.two(k, i));
            default -> due("ask(" + k + ", " + v + ")", x.ask(k, v), m.ask(k, v));
        }
    }

    private void forgetAtTimes() {
        if (below(3) == 0) {
            due("forget()", x.forget(), m.forget());
        }
    }

    private void rows() {
        int p = person();
        int q = person();
        int s = stuff();
        // A little more than what somebody has is what turns may bring.
        int v = below(4) == 0 ? amount() : Math.max(0, x.person(p, s)) + below(8);
        int i = below(20) == 0 ? odd() : below(5) - 1;
        switch (below(3)) {
            case 0 -> due("calm(" + i + ")", x.calm(i), m.calm(i));
            case 1 -> due("rich(" + p + ", " + s + ", " + v + ", " + i + ")", x.rich(p, s, v, i), m.rich(p, s, v, i));
            default -> due("alike(" + p + ", " + q + ", " + i + ")", x.alike(p, q, i), m.alike(p, q, i));
        }
    }

    private void looks() {
        int p = person();
        int q = person();
        int s = stuff();
        int w = what(7);
        int suit = below(20) == 0 ? odd() : below(Math.max(1, x.count(1) + 1));
        switch (below(5)) {
            case 0 -> due("person(" + p + ", " + w + ")", x.person(p, w), m.person(p, w));
            case 1 -> due("screw(" + s + ")", x.screw(s), m.screw(s));
            case 2 -> due("suit(" + suit + ", " + w + ")", x.suit(suit, w), m.suit(suit, w));
            case 3 -> due("tells(" + p + ", " + q + ", " + w + ")", x.tells(p, q, w), m.tells(p, q, w));
            default -> {
                int c = what(16);
                due("count(" + c + ")", x.count(c), m.count(c));
            }
        }
    }

    private void wouldBe() {
        int p = person();
        int q = person();
        int s = stuff();
        int w = what(1);
        int v = amount();
        int n = days();
        int seeds = below(20) == 0 ? odd() : below(15) == 0 ? 19 + below(3) : below(5);
        int i = below(10) == 0 ? odd() : p;
        switch (below(17)) {
            case 0 -> due("best(" + w + ")", x.best(w), m.best(w));
            case 1 -> due("gain(" + p + ", " + q + ", " + s + ")", x.gain(p, q, s), m.gain(p, q, s));
            case 2 -> due("plates(" + p + ", " + q + ", " + w + ")", x.plates(p, q, w), m.plates(p, q, w));
            case 3 -> due("crumbs(" + p + ", " + q + ", " + s + ", " + v + ")", x.crumbs(p, q, s, v), m.crumbs(p, q, s, v));
            case 4 -> due("poorest(" + w + ")", x.poorest(w), m.poorest(w));
            case 5 -> due("foes(" + w + ")", x.foes(w), m.foes(w));
            case 6 -> due("peace(" + w + ")", x.peace(w), m.peace(w));
            case 7 -> due("paired(" + i + ")", x.paired(i), m.paired(i));
            case 8 -> due("most(" + s + ", " + w + ")", x.most(s, w), m.most(s, w));
            case 9 -> due("likest(" + w + ")", x.likest(w), m.likest(w));
            case 10 -> due("fair(" + s + ")", x.fair(s), m.fair(s));
            case 11 -> due("ends()", x.ends(), m.ends());
            case 12 -> due("bill(" + n + ")", x.bill(n), m.bill(n));
            case 13 -> due("then(" + i + ", " + s + ", " + n + ")", x.then(i, s, n), m.then(i, s, n));
            case 14 -> due("foesIn(" + p + ", " + n + ")", x.foesIn(p, n), m.foesIn(p, n));
            case 15 -> due("turnsIn(" + n + ")", x.turnsIn(n), m.turnsIn(n));
            default -> due("year(" + p + ", " + q + ", " + n + ", " + seeds + ")", x.year(p, q, n, seeds), m.year(p, q, n, seeds));
        }
    }

    /** All that shows how it stands. */
    private void look() {
        for (int what = -1; what <= 17; what++) {
            due("count(" + what + ")", x.count(what), m.count(what));
        }
        for (int p = 0; p < 6; p++) {
            for (int what = 0; what <= 6; what++) {
                due("person(" + p + ", " + what + ")", x.person(p, what), m.person(p, what));
            }
        }
        for (int s = 0; s < 8; s++) {
            for (int what = 0; what <= 4; what++) {
                due("suit(" + s + ", " + what + ")", x.suit(s, what), m.suit(s, what));
            }
        }
    }
}
