/** Promises 16 to 35: what would be. */
public final class WouldBeTest {
    private static final Checks CHECKS = new Checks();
    private static final int NONE = MincedCases.NONE;
    private static final int[] ODD = {-2, 6, 7, 1000, Integer.MIN_VALUE, Integer.MAX_VALUE};

    public static void main(String[] args) {
        calm();
        rich();
        alike();
        best();
        gain();
        plates();
        crumbs();
        poorest();
        foes();
        peace();
        paired();
        most();
        likest();
        fair();
        ends();
        bill();
        inDays();
        year();
        nothingHappens();
        CHECKS.end();
    }

    private static void due(String what, long got, long want) {
        CHECKS.due(what, got, want);
    }

    /** A town whose people have so much of stuff 0 and nothing else. */
    private static MincedCases line(String laws, int... amounts) {
        StringBuilder text = new StringBuilder();
        for (int i = 0; i < amounts.length; i++) {
            text.append("person ").append((char) ('a' + i)).append(" ").append(amounts[i]).append(" 0 0 0; ");
        }
        return Checks.town(text.append(laws).toString());
    }

    private static void calms(MincedCases x, String what, int turns, int... row) {
        due(what + ": calm(-1)", x.calm(NONE), turns);
        for (int i = 0; i < 3; i++) {
            due(what + ": calm(" + i + ")", x.calm(i), turns == -2 ? -2 : i < row.length ? row[i] : NONE);
        }
        for (int odd : ODD) {
            due(what + ": calm(" + odd + ")", x.calm(odd), NONE);
        }
        due(what + ": calm(3)", x.calm(3), NONE);
    }

    private static void calm() {
        calms(new MincedCases(), "nobody", 0);
        calms(line("", 5), "one", 0);
        calms(line("", 5, 5), "alike ones", 0);
        calms(line("", 8, 0), "two", 1, 1);
        calms(line("", 8, 0, 8, 0), "four", 2, 1, 23);
        calms(line("", 8, 8, 0, 0), "four", 2, 2, 13);
        calms(line("", 8, 0, 8, 0, 8, 0), "six", 3, 1, 23, 45);
        calms(line("", 8, 8, 8, 0, 0, 0), "six", 3, 3, 14, 25);
        calms(line("", 4, 0, 8), "three", 1, 12);
        calms(line("quarrels = 1;", 4, 4), "always", -2);
        calms(line("quarrels = 1;", 4), "one alone", 0);
        // By turns alone: whoever is put through; the lowest are.
        calms(line("quarrels = 1 - turns;", 4, 4, 4), "one turn", 1, 1);
        calms(line("quarrels = 2 - turns;", 4, 4, 4), "two turns", 2, 1, 1);
        calms(line("quarrels = 3 - turns;", 4, 4, 4), "three turns", 3, 1, 1, 1);
        calms(line("quarrels = 4 - turns;", 4, 4, 4), "four turns", -2);
        // By a plate that dulls as it goes.
        calms(line("quarrels = 5 - dull; dulls = 2 + dull;", 4, 4), "a dull plate", 2, 1, 1);
        // From how it is now, and anew behind each thing done.
        MincedCases x = line("quarrels = apart - 5;", 10, 0, 10);
        calms(x, "ahead", 1, 1);
        x.put(0, 1);
        calms(x, "behind", 0);
        x.undo();
        calms(x, "undone", 1, 1);
        x.hold(0);
        x.put(0, 2);
        x.put(1, 2);
        calms(x, "more turns", 0);
        x.restore(0);
        calms(x, "restored", 1, 1);
        // 20 20 10, then 15 20 15.
        x.bread(0, 30);
        calms(x, "with bread", 2, 1, 2);
        x.wash();
        calms(x, "washed", 1, 1);
        MincedCases y = line("quarrels = apart + day * 2 - fine;", 3, 3);
        calms(y, "by day and plate", 0);
        y.days(1);
        calms(y, "a day on", -2);
        y.plate(2);
        calms(y, "a finer plate", 0);
        Checks.feed(y, "person a 1 0 0 0; person b 0 0 0 0;");
        y.read();
        calms(y, "another text", 1, 1);
        // Each asked behind another, with the same numbers.
        MincedCases z = line("quarrels = 1;", 4, 7);
        for (int i = 0; i < 2; i++) {
            due("calm", z.calm(NONE), -2);
            due("rich", z.rich(0, 0, 0, NONE), 0);
            due("calm", z.calm(NONE), -2);
            due("rich", z.rich(0, 1, 0, NONE), 0);
            due("alike", z.alike(0, 1, NONE), 1);
            due("rich", z.rich(0, 1, 0, NONE), 0);
            due("rich", z.rich(0, 1, 1, NONE), -2);
            due("rich", z.rich(0, 0, 1, NONE), 0);
            due("rich", z.rich(1, 0, 5, NONE), 0);
            due("rich", z.rich(0, 0, 5, NONE), 1);
        }
    }

    private static void riches(MincedCases x, int person, int stuff, int v, int turns, int... row) {
        String what = "rich(" + person + ", " + stuff + ", " + v + ", ";
        due(what + "-1)", x.rich(person, stuff, v, NONE), turns);
        for (int i = 0; i < 3; i++) {
            due(what + i + ")", x.rich(person, stuff, v, i), turns == -2 ? -2 : i < row.length ? row[i] : NONE);
        }
        due(what + "3)", x.rich(person, stuff, v, 3), NONE);
        due(what + "-2)", x.rich(person, stuff, v, -2), NONE);
    }

    private static void rich() {
        MincedCases x = line("", 0, 10, 30);
        riches(x, 0, 0, 0, 0);
        riches(x, 0, 0, 1, 1, 1);
        riches(x, 0, 0, 5, 1, 1);
        riches(x, 0, 0, 6, 1, 2);
        riches(x, 0, 0, 15, 1, 2);
        riches(x, 0, 0, 16, 2, 1, 2);
        riches(x, 0, 0, 17, 2, 1, 2);
        riches(x, 0, 0, 18, -2);
        riches(x, 1, 0, 10, 0);
        riches(x, 1, 0, 11, 1, 12);
        riches(x, 2, 0, 30, 0);
        riches(x, 2, 0, 31, -2);
        riches(x, 0, 3, 0, 0);
        riches(x, 0, 3, 1, -2);
        riches(x, 0, 3, 999, -2);
        // A row of three: 0 with 1, then with 2, then with 3 (4, 14, 31 each time a half of it).
        riches(line("", 0, 8, 24, 48), 0, 0, 31, 3, 1, 2, 3);
        riches(line("", 0, 8, 24, 48), 0, 0, 32, -2);
        MincedCases y = line("", 5, 5);
        y.bread(1, 12);
        riches(y, 1, 1, 6, 1, 1);
        riches(y, 1, 1, 7, -2);
        for (int odd : ODD) {
            due("no such person", x.rich(odd, 0, 0, NONE), NONE);
            due("no such stuff", x.rich(0, odd, 0, NONE), NONE);
            due("no such i", x.rich(0, 0, 0, odd), NONE);
        }
        due("no such person", x.rich(3, 0, 0, NONE), NONE);
        due("no such person", x.rich(NONE, 0, 0, NONE), NONE);
        due("no such stuff", x.rich(0, 4, 0, NONE), NONE);
        due("no such stuff", x.rich(0, NONE, 0, NONE), NONE);
        due("no such v", x.rich(0, 0, -1, NONE), NONE);
        due("no such v", x.rich(0, 0, 1000, NONE), NONE);
        due("no such v, whatever else", x.rich(0, 0, 1000, 0), NONE);
    }

    private static void alikes(MincedCases x, int person, int other, int turns, int... row) {
        String what = "alike(" + person + ", " + other + ", ";
        due(what + "-1)", x.alike(person, other, NONE), turns);
        for (int i = 0; i < 3; i++) {
            due(what + i + ")", x.alike(person, other, i), i < row.length ? row[i] : NONE);
        }
        due(what + "3)", x.alike(person, other, 3), NONE);
        due(what + "-2)", x.alike(person, other, -2), NONE);
    }

    private static void alike() {
        MincedCases x = line("", 10, 0, 5, 5);
        alikes(x, 0, 1, 1, 1);
        alikes(x, 1, 0, 1, 1);
        alikes(x, 0, 2, 1, 1);
        alikes(x, 1, 2, 1, 1);
        alikes(x, 2, 1, 1, 1);
        alikes(x, 2, 3, 0);
        MincedCases y = Checks.town("person a 1 2 3 4; person b 4 3 2 1; person c 1 2 3 5; quarrels = 0;");
        alikes(y, 1, 2, 1, 12);
        alikes(y, 0, 2, 1, 2);
        for (int odd : ODD) {
            due("no such person", x.alike(odd, 0, NONE), NONE);
            due("no such person", x.alike(0, odd, NONE), NONE);
            due("no such i", x.alike(0, 1, odd), NONE);
        }
        due("one and the same", x.alike(1, 1, NONE), NONE);
        due("no such person", x.alike(4, 1, NONE), NONE);
        due("no such person", x.alike(1, 4, 0), NONE);
        due("no such person", x.alike(NONE, 1, 0), NONE);
    }

    private static void whats(String what, int zero, int one, java.util.function.IntUnaryOperator call) {
        due(what + ": 0", call.applyAsInt(0), zero);
        due(what + ": 1", call.applyAsInt(1), one);
        due(what + ": 2", call.applyAsInt(2), NONE);
        due(what + ": -1", call.applyAsInt(-1), NONE);
        for (int odd : ODD) {
            due(what + ": " + odd, call.applyAsInt(odd), NONE);
        }
    }

    private static void best() {
        whats("best of nobody", -2, -2, new MincedCases()::best);
        whats("best of one", -2, -2, line("", 5)::best);
        whats("best of two", 1, 0, line("", 5, 9)::best);
        whats("best, the last", 12, 0, line("", 6, 0, 12)::best);
        whats("best, all alike", 1, 2, line("", 0, 0, 12)::best);
        whats("best, the second", 2, 0, line("", 0, 6, 12)::best);
        whats("best, always quarrelling", 1, 6, line("quarrels = 1;", 0, 6, 12, 3)::best);
        whats("best, none quarrelling", 1, 0, line("quarrels = 0;", 0, 6, 12, 3)::best);
    }

    private static void gain() {
        MincedCases x = Checks.town("person a 10 4 0 1; person b 3 4 6 0; person c 0 0 0 0; stays = stuff + 1;");
        int[] ofA = {-4, -1, 1, -1};
        int[] ofB = {3, -1, -5, 0};
        for (int stuff = 0; stuff < 4; stuff++) {
            due("gain(0, 1, " + stuff + ")", x.gain(0, 1, stuff), ofA[stuff]);
            due("gain(1, 0, " + stuff + ")", x.gain(1, 0, stuff), ofB[stuff]);
        }
        x.bread(2, 9);
        due("with bread", x.gain(0, 1, 2), 6);
        int no = -100000;
        for (int odd : ODD) {
            due("no such person", x.gain(odd, 0, 0), no);
            due("no such person", x.gain(0, odd, 0), no);
            due("no such stuff", x.gain(0, 1, odd), no);
        }
        due("one and the same", x.gain(2, 2, 0), no);
        due("no such person", x.gain(3, 0, 0), no);
        due("no such person", x.gain(0, -1, 0), no);
        due("no such stuff", x.gain(0, 1, 4), no);
        due("no such stuff", x.gain(0, 1, -1), no);
    }

    private static void plates() {
        // 9 of stuff 0: with stays = fine 1, 3, 3, 5, 5, 7, 7, 9, 9 are left in.
        whats("coarsest is best", 1, 1, w -> line("stays = fine; plate 4;", 5, 4).plates(0, 1, w));
        whats("finest is best", 9, 1, w -> line("stays = 10 - fine; plate 4;", 5, 4).plates(0, 1, w));
        // By fine 1, 2, 3: 3, 1, 1 stay, from 4 on none.
        whats("of alike ones the coarsest", 4, 0, w -> line("stays = 9 / fine / 3; plate 4;", 5, 5).plates(1, 0, w));
        whats("all alike", 1, 1, w -> line("plate 7;", 5, 4).plates(0, 1, w));
        // 9, 2, 3, 1 of the stuffs: by fine 1 .. 9 there are 13, 15, 13, 13, 11, 11, 9, 9, 7 left in.
        MincedCases x = Checks.town("person a 5 1 1 0; person b 4 1 2 1; stays = if stuff < 1 then 10 - fine else fine;");
        whats("of all stuffs", 9, 7, w -> x.plates(0, 1, w));
        // A plate that is put on is not dull, the one that is on neither.
        MincedCases y = line("stays = dull; dulls = 50; plate 3;", 50, 40);
        y.put(0, 1);
        whats("not dull", 1, 0, w -> y.plates(0, 1, w));
        due("still dull", y.count(5), 50);
        for (int odd : ODD) {
            due("no such person", y.plates(odd, 0, 0), NONE);
            due("no such person", y.plates(0, odd, 1), NONE);
        }
        due("one and the same", y.plates(1, 1, 0), NONE);
        due("no such person", y.plates(2, 1, 0), NONE);
        due("no such person", y.plates(-1, 1, 0), NONE);
    }

    private static void crumbs() {
        MincedCases x = line("", 0, 0, 30);
        due("none", x.crumbs(0, 1, 0, 0), 0);
        due("for 1", x.crumbs(0, 1, 0, 1), 2);
        due("for 49", x.crumbs(0, 1, 0, 49), 98);
        due("for 50", x.crumbs(0, 1, 0, 50), -2);
        due("for 999", x.crumbs(0, 1, 0, 999), -2);
        due("what they have, too", x.crumbs(2, 1, 0, 15), 0);
        due("what they have, too", x.crumbs(2, 1, 0, 16), 2);
        due("another stuff", x.crumbs(2, 1, 1, 16), 32);
        x.bread(1, 5);
        due("what is in the screw, too", x.crumbs(2, 1, 1, 16), 27);
        MincedCases y = line("stays = 1;", 0, 0);
        due("99", y.crumbs(0, 1, 0, 49), 99);
        due("more", y.crumbs(0, 1, 0, 50), -2);
        // The least, though more would be too much: with 10 or more in the screw all stays.
        MincedCases z = line("stays = if rest < 10 then 0 else all;", 4, 4);
        due("less than 10", z.crumbs(0, 1, 0, 8), 8);
        due("not by more", z.crumbs(0, 1, 0, 9), -2);
        for (int odd : ODD) {
            due("no such person", x.crumbs(odd, 1, 0, 1), NONE);
            due("no such person", x.crumbs(0, odd, 0, 1), NONE);
            due("no such stuff", x.crumbs(0, 1, odd, 1), NONE);
        }
        due("one and the same", x.crumbs(1, 1, 0, 1), NONE);
        due("no such person", x.crumbs(3, 1, 0, 1), NONE);
        due("no such stuff", x.crumbs(0, 1, 4, 1), NONE);
        due("no such stuff", x.crumbs(0, 1, -1, 1), NONE);
        due("no such v", x.crumbs(0, 1, 0, -1), NONE);
        due("no such v", x.crumbs(0, 1, 0, 1000), NONE);
    }

    private static void poorest() {
        whats("nobody", -2, -2, new MincedCases()::poorest);
        whats("one", 0, 5, line("", 5)::poorest);
        whats("the first of alike ones", 1, 3, line("", 5, 3, 9, 3)::poorest);
        whats("of all stuffs", 2, 9, Checks.town("person a 1 0 9 0; person b 0 0 0 20; person c 3 3 3 0;")::poorest);
        whats("nothing at all", 1, 0, line("", 5, 0)::poorest);
    }

    private static void foes() {
        whats("nobody", 0, -2, new MincedCases()::foes);
        whats("none", 0, -2, line("", 5, 5, 5)::foes);
        whats("the last two", 2, 2, line("", 5, 5, 6)::foes);
        whats("all", 15, 1, line("quarrels = 1;", 5, 5, 5, 5, 5, 5)::foes);
        whats("one pair", 1, 45, line("quarrels = apart - 8;", 5, 5, 5, 5, 1, 10)::foes);
    }

    /** Neighbours on the line, 20 apart, quarrel; others do not. */
    private static final String NEIGHBOURS = "quarrels = if apart < 10 then 0 else 25 - apart;";

    private static void peace() {
        whats("nobody", 0, 0, new MincedCases()::peace);
        whats("none", 0, 0, line("", 5, 5, 5)::peace);
        whats("one against all", 1, 1, line("", 50, 0, 0, 0)::peace);
        whats("all against the last", 1, 8, line("", 0, 0, 0, 50)::peace);
        whats("two", 1, 1, line("", 0, 50)::peace);
        whats("everybody", 5, 31, line("quarrels = 1;", 0, 0, 0, 0, 0, 0)::peace);
        whats("a path of three", 1, 2, line(NEIGHBOURS, 0, 20, 40)::peace);
        whats("a path of four", 2, 5, line(NEIGHBOURS, 0, 20, 40, 60)::peace);
        whats("a path of five", 2, 10, line(NEIGHBOURS, 0, 20, 40, 60, 80)::peace);
        whats("a star of the third", 1, 4, line(NEIGHBOURS, 0, 0, 20, 40, 40)::peace);
        // a and b, c and d differ most by 60, all others by 30.
        String cross = "person a 0 30 0 0; person b 60 30 0 0; person c 30 0 0 0; person d 30 60 0 0; quarrels = most - 40;";
        whats("two pairs", 2, 5, Checks.town(cross)::peace);
    }

    private static void pairs(String what, MincedCases x, int pairs, int... with) {
        due(what + ": paired(-1)", x.paired(NONE), pairs);
        for (int i = 0; i < with.length; i++) {
            due(what + ": paired(" + i + ")", x.paired(i), with[i]);
        }
        due(what + ": no such person", x.paired(with.length), NONE);
        for (int odd : ODD) {
            due(what + ": paired(" + odd + ")", x.paired(odd), NONE);
        }
    }

    private static void paired() {
        pairs("nobody", new MincedCases(), 0);
        pairs("none", line("", 5, 5), 0, -2, -2);
        pairs("two", line("", 5, 6), 1, 1, 0);
        pairs("three", line("quarrels = 1;", 5, 5, 5), 1, -2, 2, 1);
        pairs("four", line("quarrels = 1;", 5, 5, 5, 5), 2, 1, 0, 3, 2);
        pairs("five", line("quarrels = 1;", 5, 5, 5, 5, 5), 2, -2, 2, 1, 4, 3);
        pairs("six", line("quarrels = 1;", 5, 5, 5, 5, 5, 5), 3, 1, 0, 3, 2, 5, 4);
        pairs("a path of three", line(NEIGHBOURS, 0, 20, 40), 1, -2, 2, 1);
        pairs("a path of four", line(NEIGHBOURS, 0, 20, 40, 60), 2, 1, 0, 3, 2);
        pairs("a path of five", line(NEIGHBOURS, 0, 20, 40, 60, 80), 2, -2, 2, 1, 4, 3);
        // 0 40 20 60 80 20: 0 with 2 or 5, 1 with 2, 3 or 5, 3 with 4.
        pairs("a tangle", line(NEIGHBOURS, 0, 40, 20, 60, 80, 20), 3, 2, 5, 0, 4, 3, 1);
        // 1 0 3 2 4: without 0 there would be but one pair, and so without 2.
        pairs("a path not in order", line(NEIGHBOURS, 20, 0, 60, 40, 80), 2, 1, 0, 3, 2, -2);
        pairs("a star of the last", line("", 0, 0, 0, 50), 1, -2, -2, 3, 2);
        pairs("a star of the first", line("", 50, 0, 0, 0), 1, 1, 0, -2, -2);
    }

    private static void most() {
        whats("nobody", -2, -2, w -> new MincedCases().most(0, w));
        MincedCases x = Checks.town("person a 5 0 1 0; person b 9 0 2 0; person c 9 0 3 1;");
        whats("the first of alike ones", 1, 9, w -> x.most(0, w));
        whats("all alike", 0, 0, w -> x.most(1, w));
        whats("the last", 2, 3, w -> x.most(2, w));
        whats("the last", 2, 1, w -> x.most(3, w));
        for (int odd : ODD) {
            due("no such stuff", x.most(odd, 0), NONE);
            due("no such stuff, nobody there", new MincedCases().most(odd, 0), NONE);
        }
        due("no such stuff", x.most(4, 0), NONE);
        due("no such stuff", x.most(-1, 1), NONE);
    }

    private static void likest() {
        whats("nobody", -2, -2, new MincedCases()::likest);
        whats("one", -2, -2, line("", 5)::likest);
        whats("two", 1, 4, line("", 5, 9)::likest);
        whats("the first of alike ones", 2, 1, line("", 5, 9, 6, 8)::likest);
        whats("the last two", 23, 0, line("", 5, 9, 7, 7)::likest);
        whats("of all stuffs", 12, 4, Checks.town("person a 5 5 5 5; person b 7 7 7 7; person c 8 8 8 8;")::likest);
    }

    private static void fair() {
        MincedCases x = Checks.town("person a 5 0 99 7; person b 9 0 0 7; person c 2 0 3 8;");
        int[] want = {7, 0, 99, 1};
        for (int stuff = 0; stuff < 4; stuff++) {
            due("fair(" + stuff + ")", x.fair(stuff), want[stuff]);
            due("of nobody", new MincedCases().fair(stuff), 0);
            due("of one", line("", 5).fair(stuff), 0);
        }
        for (int odd : ODD) {
            due("no such stuff", x.fair(odd), NONE);
            due("no such stuff of nobody", new MincedCases().fair(odd), NONE);
        }
        due("no such stuff", x.fair(4), NONE);
        due("no such stuff", x.fair(-1), NONE);
    }

    private static void ends() {
        due("no suits", line("quarrels = 1;", 1, 2).ends(), 0);
        due("now", line("suit a b 1 0; quarrels = 0;", 1, 2).ends(), 0);
        due("never", line("suit a b 1 0; quarrels = 1;", 1, 2).ends(), -2);
        due("on day 5", line("suit a b 30 29; quarrels = 5 - day;", 1, 2).ends(), 5);
        due("on day 200", line("suit a b 30 29; quarrels = 200 - day;", 1, 2).ends(), 200);
        due("on day 201", line("suit a b 30 29; quarrels = 201 - day;", 1, 2).ends(), -2);
        MincedCases x = line("suit a b 30 29; quarrels = 201 - day;", 1, 2);
        x.days(1);
        due("a day on", x.ends(), 200);
        x.days(60);
        due("60 days on", x.ends(), 140);
        due("by their turn on day 3", line("suit a b 9 3;", 1, 2).ends(), 4);
        due("by the last suit", line("suit a b 9 3; suit c d 9 5; suit a b 9 4;", 1, 2, 3, 4).ends(), 6);
        due("others may quarrel", line("suit a b 9 3;", 1, 1, 3, 4).ends(), 0);
        // They may quarrel again: the first time counts.
        due("the first time", line("suit a b 30 29; quarrels = (day - 3) * (day - 3);", 1, 2).ends(), 3);
        // 21 20 20 and 1 in the screw is so again day by day; only a thumb, on day 3, would bring 21 21 21 on day 4.
        MincedCases y = line("suit a b 1 0; suit b c 1 0; thumb 100; seed 7;", 22, 23, 17);
        due("without thumbs", y.ends(), -2);
        due("with thumbs", y.foesIn(1, 4), 1);
        due("with thumbs", y.foesIn(1, 5), 0);
    }

    private static void bill() {
        MincedCases x = line("suit a b 2 0; quarrels = 1; costs = 3 + day;", 4, 9);
        int[] want = {0, 3, 3, 8, 8, 15, 15};
        for (int n = 0; n < want.length; n++) {
            due("bill(" + n + ")", x.bill(n), want[n]);
        }
        x.put(0, 1);
        x.days(2);
        due("not what was paid so far", x.bill(0), 0);
        due("from now on", x.bill(1), 5);
        due("60 days", line("suit a b 1 0; quarrels = 1;", 4, 9).bill(60), 60);
        for (int odd : ODD) {
            due("no such n", x.bill(odd == 6 || odd == 7 ? odd + 55 : odd), NONE);
        }
        due("no such n", x.bill(-1), NONE);
        due("no such n", x.bill(61), NONE);
        // What a thumb puts in would cost, but there are none.
        MincedCases y = line("suit a b 1 0; quarrels = 1; costs = rest; thumb 100;", 0, 0);
        due("without thumbs", y.bill(9), 0);
        y.days(9);
        due("with thumbs", y.count(7) > 0 ? 1 : 0, 1);
    }

    private static void inDays() {
        String text = "person a 40 3 7 0; person b 2 30 1 9; person c 11 0 0 50; suit a b 2 1; suit b c 3 0; suit c a 4 2;"
            + "quarrels = apart - 20; stays = all / 7; dulls = 3; costs = apart / 10; thumb 55; seed 321;";
        for (int n : new int[] {0, 1, 2, 3, 7, 59, 60}) {
            MincedCases x = Checks.town(text);
            x.bread(1, 7);
            MincedCases y = Checks.town(text);
            y.bread(1, 7);
            y.days(n);
            for (int stuff = 0; stuff < 4; stuff++) {
                due("then(-1, " + stuff + ", " + n + ")", x.then(NONE, stuff, n), y.screw(stuff));
                for (int person = 0; person < 3; person++) {
                    due("then(" + person + ", " + stuff + ", " + n + ")", x.then(person, stuff, n), y.person(person, stuff));
                }
            }
            for (int person = 0; person < 3; person++) {
                due("foesIn(" + person + ", " + n + ")", x.foesIn(person, n), y.person(person, 5));
            }
            due("turnsIn(" + n + ")", x.turnsIn(n), y.count(3));
        }
        // Turns so far are among the turns then; thumbs come in.
        MincedCases z = line("suit a b 1 0; quarrels = 1; thumb 100;", 0, 0);
        z.put(0, 1);
        due("turnsIn(0)", z.turnsIn(0), 1);
        due("turnsIn(5)", z.turnsIn(5), 6);
        int sum = 0;
        MincedCases w = line("thumb 100;", 0, 0);
        for (int stuff = 0; stuff < 4; stuff++) {
            sum += w.then(NONE, stuff, 60);
        }
        due("60 thumbs", sum, 60);
        int[] bad = {-1, 61, Integer.MAX_VALUE, Integer.MIN_VALUE};
        for (int n : bad) {
            due("no such n", z.then(0, 0, n), NONE);
            due("no such n", z.foesIn(0, n), NONE);
            due("no such n", z.turnsIn(n), NONE);
        }
        for (int odd : ODD) {
            due("no such person", z.then(odd, 0, 1), NONE);
            due("no such stuff", z.then(0, odd, 1), NONE);
            due("no such person", z.foesIn(odd, 1), NONE);
        }
        due("no such person", z.then(2, 0, 1), NONE);
        due("no such stuff", z.then(NONE, 4, 1), NONE);
        due("no such stuff", z.then(NONE, -1, 1), NONE);
        due("no such person", z.foesIn(2, 1), NONE);
        due("no such person", z.foesIn(-1, 1), NONE);
    }

    private static void year() {
        // Day by day a and b share what thumbs put in, until c is too unlike them to quarrel with.
        String text = "person a 0 0 0 0; person b 0 0 0 0; person c 0 0 0 0; suit a b 1 0; quarrels = 10 - apart; thumb 40; seed ";
        boolean differing = false;
        for (int n : new int[] {0, 1, 30, 45, 50, 60}) {
            MincedCases x = Checks.town(text + "500;");
            int sum = 0;
            for (int s = 1; s <= 20; s++) {
                sum += Checks.town(text + (499 + s) + ";").foesIn(0, n) >> 2 & 1;
                due("year(0, 2, " + n + ", " + s + ")", x.year(0, 2, n, s), sum);
                due("year(2, 0, " + n + ", " + s + ")", x.year(2, 0, n, s), sum);
                differing |= sum > 0 && sum < s;
            }
        }
        due("seeds tell apart", differing ? 1 : 0, 1);
        // Beyond the greatest seed that can be told they go on.
        MincedCases y = Checks.town("person a 5 0 0 0; person b 0 0 0 0; thumb 50; seed 9999;");
        due("20 seeds", y.year(0, 1, 60, 20), 20);
        int[] bad = {-1, 61, Integer.MAX_VALUE, Integer.MIN_VALUE};
        for (int n : bad) {
            due("no such n", y.year(0, 1, n, 1), NONE);
        }
        for (int s : new int[] {0, 21, -1, Integer.MAX_VALUE, Integer.MIN_VALUE}) {
            due("no such s", y.year(0, 1, 1, s), NONE);
        }
        for (int odd : ODD) {
            due("no such person", y.year(odd, 0, 1, 1), NONE);
            due("no such person", y.year(0, odd, 1, 1), NONE);
        }
        due("one and the same", y.year(1, 1, 1, 1), NONE);
        due("no such person", y.year(2, 1, 1, 1), NONE);
        due("no such person", y.year(0, -1, 1, 1), NONE);
    }

    private static void nothingHappens() {
        MincedCases x = Checks.town("person a 40 3 7 0; person b 2 30 1 9; person c 11 0 0 50; suit a b 2 1; suit b c 3 0;"
            + "quarrels = apart - 20; stays = all / 7; dulls = 3; thumb 55; seed 321;");
        x.put(0, 2);
        x.bread(2, 5);
        x.tell(0, 0, 9, true);
        int[] ahead = all(x);
        x.calm(NONE);
        x.rich(0, 0, 50, NONE);
        x.alike(0, 1, 0);
        x.best(0);
        x.gain(0, 1, 2);
        x.plates(0, 1, 0);
        x.crumbs(0, 1, 2, 40);
        x.poorest(0);
        x.foes(1);
        x.peace(1);
        x.paired(0);
        x.most(0, 0);
        x.likest(0);
        x.fair(0);
        x.ends();
        x.bill(60);
        x.then(0, 0, 60);
        x.foesIn(0, 60);
        x.turnsIn(60);
        x.year(0, 1, 60, 20);
        x.two(1, 0);
        x.ask(1, 4);
        x.tells(0, 1, 4);
        int[] behind = all(x);
        for (int i = 0; i < ahead.length; i++) {
            due("nothing happens: " + i, behind[i], ahead[i]);
        }
    }

    private static int[] all(MincedCases x) {
        int[] all = new int[17 + 4 + 6 * 7];
        for (int i = 0; i < 17; i++) {
            all[i] = x.count(i);
        }
        for (int i = 0; i < 4; i++) {
            all[17 + i] = x.screw(i);
        }
        for (int i = 0; i < 42; i++) {
            all[21 + i] = x.person(i / 7, i % 7);
        }
        return all;
    }
}
