/** Promises 6 to 15 and 40 to 42: what is so, what is done by hand and by days, undone, held; with the laws and lots. */
public final class TownTest {
    private static final Checks CHECKS = new Checks();
    private static final int NONE = MincedCases.NONE;
    private static final String THREE = "person a 10 4 0 1; person b 3 4 6 0; person c 3 4 6 0; suit a b 3 2; suit c a 1 0;"
        + "plate 5; quarrels = apart - 1; stays = stuff + 1; dulls = 40; costs = 7;";

    public static void main(String[] args) {
        person();
        screw();
        suit();
        tells();
        arithmetic();
        divisions();
        varsOfStays();
        varsOfQuarrels();
        varsOfTurns();
        put();
        bread();
        plate();
        wash();
        days();
        daysBySuits();
        thumbs();
        undo();
        hold();
        count();
        CHECKS.end();
    }

    private static void due(String what, long got, long want) {
        CHECKS.due(what, got, want);
    }

    private static void due(String what, boolean got, boolean want) {
        CHECKS.due(what, got, want);
    }

    private static void people(MincedCases x, String what, int... want) {
        for (int i = 0; i < want.length; i++) {
            due(what + ": person " + i / 4 + " stuff " + i % 4, x.person(i / 4, i % 4), want[i]);
        }
    }

    private static void screwHas(MincedCases x, String what, int... want) {
        for (int stuff = 0; stuff < 4; stuff++) {
            due(what + ": screw " + stuff, x.screw(stuff), want[stuff]);
        }
    }

    private static void person() {
        MincedCases x = Checks.town(THREE);
        people(x, "as told", 10, 4, 0, 1, 3, 4, 6, 0, 3, 4, 6, 0);
        int[] all = {15, 13, 13};
        int[] foes = {6, 1, 1};
        for (int p = 0; p < 3; p++) {
            due("of all", x.person(p, 4), all[p]);
            due("foes", x.person(p, 5), foes[p]);
            due("puts", x.person(p, 6), 0);
        }
        x.put(0, 1);
        x.put(2, 1);
        due("puts of a", x.person(0, 6), 1);
        due("puts of b", x.person(1, 6), 2);
        due("puts of c", x.person(2, 6), 1);
        for (int[] bad : new int[][] {{3, 0}, {-1, 0}, {6, 0}, {0, 7}, {0, -1}, {Integer.MAX_VALUE, 0}, {0, Integer.MIN_VALUE}}) {
            due("person(" + bad[0] + ", " + bad[1] + ")", x.person(bad[0], bad[1]), NONE);
        }
    }

    private static void screw() {
        MincedCases x = Checks.town(THREE);
        screwHas(x, "at first", 0, 0, 0, 0);
        x.bread(3, 99);
        x.bread(1, 2);
        screwHas(x, "with bread", 0, 2, 0, 99);
        due("screw(4)", x.screw(4), NONE);
        due("screw(-1)", x.screw(-1), NONE);
        due("screw(MAX)", x.screw(Integer.MAX_VALUE), NONE);
    }

    private static void suit() {
        MincedCases x = Checks.town(THREE);
        int[][] want = {{0, 1, 3, 2}, {2, 0, 1, 0}};
        for (int suit = 0; suit < 2; suit++) {
            for (int what = 0; what < 4; what++) {
                due("suit(" + suit + ", " + what + ")", x.suit(suit, what), want[suit][what]);
            }
        }
        int[] dueOnDay = {0, 0, 1, 0, 0, 1, 0, 0, 1, 0};
        for (int day = 0; day < dueOnDay.length; day++) {
            due("suit 0 due on day " + day, x.suit(0, 4), dueOnDay[day]);
            due("suit 1 due on day " + day, x.suit(1, 4), 1);
            due("due on day " + day, x.count(16), 2 + dueOnDay[day]);
            x.days(1);
        }
        for (int[] bad : new int[][] {{2, 0}, {-1, 0}, {8, 0}, {0, 5}, {0, -1}, {Integer.MIN_VALUE, 0}}) {
            due("suit(" + bad[0] + ", " + bad[1] + ")", x.suit(bad[0], bad[1]), NONE);
        }
    }

    private static void tells() {
        MincedCases x = Checks.town(THREE);
        int[] ofAandB = {1, 14, 40, 7, 1, 2, 3, 1};
        int[] ofBandC = {0, 0, 40, 7, 1, 2, 3, 0};
        for (int what = 0; what < 8; what++) {
            due("tells(0, 1, " + what + ")", x.tells(0, 1, what), ofAandB[what]);
            due("tells(1, 0, " + what + ")", x.tells(1, 0, what), ofAandB[what]);
            due("tells(1, 2, " + what + ")", x.tells(1, 2, what), ofBandC[what]);
        }
        int[][] bad = {{0, 0, 0}, {0, 3, 0}, {3, 0, 0}, {-1, 0, 0}, {0, -1, 0}, {0, 1, 8}, {0, 1, -1}, {0, 1, Integer.MIN_VALUE},
            {0, 1, Integer.MAX_VALUE}};
        for (int[] b : bad) {
            due("tells(" + b[0] + ", " + b[1] + ", " + b[2] + ")", x.tells(b[0], b[1], b[2]), NONE);
        }
        // DULLS and COSTS are held to 0 .. 99, STAYS to 0 .. all.
        MincedCases y = Checks.town("person a 10 0 3 0; person b 0 0 0 0; dulls = 100; costs = 0 - 1; stays = 0 - 5;");
        due("dulls held", y.tells(0, 1, 2), 99);
        due("costs held", y.tells(0, 1, 3), 0);
        due("stays held", y.tells(0, 1, 4), 0);
        MincedCases z = Checks.town("person a 10 0 3 0; person b 0 0 0 0; dulls = 99; costs = 9999; stays = 11;");
        due("dulls held", z.tells(0, 1, 2), 99);
        due("costs held", z.tells(0, 1, 3), 99);
        due("stays held", z.tells(0, 1, 4), 10);
        due("stays held", z.tells(0, 1, 6), 3);
        // A quarrel is more than 0, not 0.
        due("quarrels 0", Checks.town("person a 1 0 0 0; person b 0 0 0 0; quarrels = apart - 1;").tells(0, 1, 0), 0);
        due("quarrels -1", Checks.town("person a 1 0 0 0; person b 0 0 0 0; quarrels = apart - 2;").tells(0, 1, 0), 0);
        due("quarrels 1", Checks.town("person a 1 0 0 0; person b 0 0 0 0; quarrels = apart;").tells(0, 1, 0), 1);
    }

    private static int costs(String law) {
        return Checks.town("person a 10 0 0 0; person b 0 0 7 0; costs = " + law + ";").tells(0, 1, 3);
    }

    private static void law(String law, int want) {
        due("costs = " + law, costs(law), want);
    }

    private static void arithmetic() {
        law("2 + 3 * 4 - 10 / 3", 11);
        law("20 - 5 - 5", 10);
        law("20 - (5 - 5)", 20);
        law("80 / 4 / 2", 10);
        law("80 / (4 / 2)", 40);
        law("2 * 3 + 4 * 5", 26);
        law("2 * (3 + 4) * 5", 70);
        law("7 * 3 / 2", 10);
        law("7 / 2 * 3", 9);
        law("1 + 2 - 3 + 4", 4);
        law("10 + (0 - 7) / 2", 7);
        law("10 + 7 / (0 - 2)", 7);
        law("((((((5))))))", 5);
        law("0012", 12);
        law("apart + most + stuff", 27);
        law("if 1 < 2 then 3 else 4", 3);
        law("if 2 < 1 then 3 else 4", 4);
        law("if 1 < 1 then 3 else 4", 4);
        law("if 0 - 1 < 0 then 3 else 4", 3);
        law("if 2 < 1 then 3 else if 1 < 2 then 5 else 4", 5);
        law("if 1 < 2 then 3 else if 1 < 2 then 5 else 4", 3);
        law("if 1 < 1 then 1 else if 1 < 1 then 2 else if 1 < 1 then 3 else if 0 < 1 then 4 else 5", 4);
        law("if 1 < 1 then 1 else if 1 < 1 then 2 else if 1 < 1 then 3 else if 1 < 1 then 4 else 5 + 1", 6);
        law("if 1 + 1 < 2 * 2 then (3 - 1) * 4 else 4", 8);
        // Ints of 32 bits that wrap.
        law("if 9999 * 9999 * 9999 < 0 then 1 else 2", 9999 * 9999 * 9999 < 0 ? 1 : 2);
        law("if 9999 * 9999 * 50 < 0 then 1 else 2", 9999 * 9999 * 50 < 0 ? 1 : 2);
        law("if 2048 * 1024 * 1024 < 0 then 1 else 2", 1);
        law("if 2048 * 1024 * 1024 - 1 < 0 then 1 else 2", 2);
        law("if 2048 * 1024 * 1024 / (0 - 1) < 0 then 1 else 2", 1);
        law("2048 * 1024 * 1024 * 2 + 9", 9);
    }

    private static void divisions() {
        law("5 + 1 / 0", 0);
        law("4 + 0 * (1 / 0)", 0);
        law("4 + 0 / 1", 4);
        law("0 / 0", 0);
        law("7 + 1 / (apart - 17)", 0);
        law("if 1 < 2 then 3 else 1 / 0", 3);
        law("if 2 < 1 then 1 / 0 else 7", 7);
        law("if 1 / 0 < 1 then 5 else 6", 0);
        law("if 1 < 1 / 0 then 5 else 6", 0);
        law("if 2 < 1 then 5 else if 1 / 0 < 1 then 6 else 7", 0);
        law("if 1 < 2 then 5 else if 1 / 0 < 1 then 6 else 7", 5);
        law("if 1 < 2 then 1 / 0 else 7", 0);
        // Divided by 0 once, a law tells what it tells the next time.
        MincedCases x = Checks.town("person a 10 0 0 0; person b 0 0 0 0; costs = 20 / dull; dulls = 4;");
        due("costs", x.tells(0, 1, 3), 0);
        x.put(0, 1);
        due("paid", x.count(7), 0);
        due("costs", x.tells(0, 1, 3), 5);
        x.put(0, 1);
        due("paid", x.count(7), 5);
        due("no quarrel", Checks.town("person a 9 0 0 0; person b 0 0 0 0; quarrels = 5 + 1 / 0;").tells(0, 1, 0), 0);
        due("stays", Checks.town("person a 9 0 0 0; person b 0 0 0 0; stays = 5 + 1 / 0;").tells(0, 1, 4), 0);
    }

    private static void varsOfStays() {
        String two = "person a 50 20 0 7; person b 30 40 9 7; plate 6; dulls = 3; stays = ";
        int[][] want = {
            {0, 1, 2, 3}, {6, 6, 6, 6}, {3, 3, 3, 3}, {5, 1, 0, 0}, {84, 61, 8, 14}, {0, 0, 0, 0}, {2, 2, 2, 2}, {1, 1, 1, 1},
            {40, 30, 4, 7}};
        String[] vars = {"stuff", "fine", "dull", "rest", "all", "apart", "day", "turns", "most"};
        for (int v = 0; v < vars.length; v++) {
            MincedCases x = Checks.town(two + "if turns < 1 then 0 else " + vars[v] + ";");
            // 80, 60, 9, 14 come out: 40, 30, 4, 7 each, one of stuff 2 stays in.
            x.put(0, 1);
            people(x, "behind the first", 40, 30, 4, 7, 40, 30, 4, 7);
            x.wash();
            x.days(2);
            x.bread(0, 5);
            x.bread(1, 1);
            for (int stuff = 0; stuff < 4; stuff++) {
                int all = 80 * (stuff == 0 ? 1 : 0) + 60 * (stuff == 1 ? 1 : 0) + 8 * (stuff == 2 ? 1 : 0) + 14 * (stuff == 3 ? 1 : 0)
                    + x.screw(stuff);
                int due = Math.min(all, vars[v].equals("all") ? all : want[v][stuff]);
                due("stays = " + vars[v] + " of stuff " + stuff, x.tells(0, 1, 4 + stuff), due);
            }
        }
        // apart is as of the two ahead, for every stuff.
        MincedCases x = Checks.town("person a 50 20 0 7; person b 30 40 9 7; stays = apart / 7;");
        x.put(0, 1);
        people(x, "stays = 7 of each", 36, 26, 1, 3, 36, 26, 1, 3);
        screwHas(x, "stays = 7 of each", 8, 8, 7, 8);
        // most is of the one with more.
        MincedCases y = Checks.town("person a 50 20 0 7; person b 30 40 9 7; stays = most;");
        int[] most = {50, 40, 9, 7};
        for (int stuff = 0; stuff < 4; stuff++) {
            due("stays = most", y.tells(0, 1, 4 + stuff), most[stuff]);
            due("stays = most", y.tells(1, 0, 4 + stuff), most[stuff]);
        }
    }

    private static int quarrel(String law) {
        MincedCases x = Checks.town("person a 5 20 0 7; person b 3 11 9 7; person c 5 20 0 7; plate 6; dulls = 3; quarrels = " + law + ";");
        for (int stuff = 0; stuff < 4; stuff++) {
            x.bread(stuff, 50);
        }
        x.put(1, 0);
        x.undo();
        x.tells(0, 1, 3);
        return x.tells(0, 1, 0);
    }

    private static void varsOfQuarrels() {
        // They differ by 2, 9, 9, 0.
        due("apart", quarrel("apart - 19"), 1);
        due("apart", quarrel("apart - 20"), 0);
        due("most", quarrel("most - 8"), 1);
        due("most", quarrel("most - 9"), 0);
        due("the first stuff of which most", quarrel("if stuff < 1 then 0 else if 1 < stuff then 0 else 1"), 1);
        due("rest is 0", quarrel("rest"), 0);
        due("all is 0", quarrel("all"), 0);
        due("rest and all are 0", quarrel("1 - rest - all"), 1);
        due("fine", quarrel("fine - 5"), 1);
        due("fine", quarrel("fine - 6"), 0);
        due("dull", quarrel("dull"), 0);
        due("turns", quarrel("turns"), 0);
        due("day", quarrel("day"), 0);
        MincedCases x = Checks.town("person a 5 20 0 7; person b 5 20 0 7; quarrels = 1 - stuff - most - apart;");
        due("two who do not differ: stuff 0, most 0", x.tells(0, 1, 0), 1);
        MincedCases y = Checks.town("person a 5 20 0 7; person b 5 20 0 7; dulls = 2; quarrels = (day - 1) * (turns - 2) * (dull - 5);");
        due("(-1) * (-2) * (-5)", y.tells(0, 1, 0), 0);
        y.days(2);
        due("1 * (-2) * (-5)", y.tells(0, 1, 0), 1);
        y.put(0, 1);
        y.put(0, 1);
        y.put(0, 1);
        due("1 * 1 * 1", y.tells(0, 1, 0), 1);
    }

    private static void varsOfTurns() {
        String two = "person a 5 2 0 7; person b 3 9 9 7; plate 6; dulls = ";
        // They differ by 2, 7, 9, 0; a has 14, b 28; 8 are in the screw; day 3.
        String[] laws = {"stuff", "fine", "dull", "rest", "all", "apart", "day", "turns", "most"};
        int[] want = {2, 6, 0, 8, 42, 18, 3, 0, 9};
        for (int i = 0; i < laws.length; i++) {
            MincedCases x = Checks.town(two + laws[i] + "; costs = " + laws[i] + ";");
            x.bread(0, 5);
            x.bread(3, 3);
            x.days(3);
            due("dulls = " + laws[i], x.tells(0, 1, 2), want[i]);
            due("costs = " + laws[i], x.tells(0, 1, 3), want[i]);
            x.put(0, 1);
            // Ahead of it, not behind it.
            due("dull by " + laws[i], x.count(5), want[i]);
            due("paid by " + laws[i], x.count(7), want[i]);
        }
        MincedCases x = Checks.town(two + "20 + dull; costs = 10 * turns + dull;");
        x.put(0, 1);
        due("dull", x.count(5), 20);
        due("paid", x.count(7), 0);
        x.put(0, 1);
        due("dull", x.count(5), 60);
        due("paid", x.count(7), 30);
    }

    private static void put() {
        MincedCases x = Checks.town(THREE);
        due("put(0, 1)", x.put(0, 1), 1);
        people(x, "behind one", 6, 3, 1, 0, 6, 3, 1, 0, 3, 4, 6, 0);
        screwHas(x, "behind one", 1, 2, 4, 1);
        due("dull", x.count(5), 40);
        due("paid", x.count(7), 7);
        due("turns", x.count(3), 1);
        due("day", x.count(2), 0);
        due("put(2, 1)", x.put(2, 1), 2);
        people(x, "behind two", 6, 3, 1, 0, 4, 3, 4, 0, 4, 3, 4, 0);
        screwHas(x, "behind two", 2, 3, 3, 1);
        due("dull", x.count(5), 80);
        due("put(2, 1), who do not quarrel", x.put(2, 1), 3);
        due("dull, 99 at most", x.count(5), 99);
        due("paid", x.count(7), 21);
        for (int[] bad : new int[][] {{0, 0}, {0, 3}, {3, 0}, {-1, 1}, {1, -1}, {6, 1}, {Integer.MIN_VALUE, 1}}) {
            due("put(" + bad[0] + ", " + bad[1] + ")", x.put(bad[0], bad[1]), NONE);
        }
        due("nothing happened", x.count(3), 3);
        due("nothing to undo more", x.count(9), 3);
    }

    private static void bread() {
        MincedCases x = Checks.town(THREE);
        due("bread(2, 1)", x.bread(2, 1), true);
        due("bread(2, 99)", x.bread(2, 99), true);
        screwHas(x, "bread", 0, 0, 100, 0);
        for (int[] bad : new int[][] {{0, 0}, {0, 100}, {0, -1}, {4, 1}, {-1, 1}, {Integer.MAX_VALUE, 1}, {0, Integer.MIN_VALUE}}) {
            due("bread(" + bad[0] + ", " + bad[1] + ")", x.bread(bad[0], bad[1]), false);
        }
        screwHas(x, "bread", 0, 0, 100, 0);
        due("things done", x.count(9), 2);
        // What is in the screw comes out with the next two.
        MincedCases y = Checks.town("person a 1 0 0 0; person b 2 0 0 0;");
        y.bread(0, 8);
        y.put(0, 1);
        people(y, "bread came out", 5, 0, 0, 0, 5, 0, 0, 0);
        screwHas(y, "an odd one stays in", 1, 0, 0, 0);
    }

    private static void plate() {
        MincedCases x = Checks.town(THREE);
        due("the one that is on", x.plate(5), false);
        for (int bad : new int[] {0, 10, -1, Integer.MAX_VALUE, Integer.MIN_VALUE}) {
            due("plate(" + bad + ")", x.plate(bad), false);
        }
        due("nothing done", x.count(9), 0);
        x.put(0, 1);
        due("the one that is on, dull", x.plate(5), true);
        due("fine", x.count(4), 5);
        due("not dull", x.count(5), 0);
        x.put(0, 1);
        due("plate(9)", x.plate(9), true);
        due("fine", x.count(4), 9);
        due("not dull", x.count(5), 0);
        due("plate(1)", x.plate(1), true);
        due("fine", x.count(4), 1);
        due("things done", x.count(9), 5);
    }

    private static void wash() {
        MincedCases x = Checks.town(THREE);
        x.bread(0, 3);
        x.bread(3, 4);
        due("wash", x.wash(), 7);
        screwHas(x, "washed", 0, 0, 0, 0);
        due("wash of nothing", x.wash(), 0);
        due("is a thing done, too", x.count(9), 4);
    }

    private static void days() {
        MincedCases x = Checks.town(THREE);
        due("days(0)", x.days(0), 0);
        due("is no thing done", x.count(9), 0);
        due("days(60)", x.days(60), 60);
        due("days(1)", x.days(1), 61);
        due("things done", x.count(9), 2);
        for (int bad : new int[] {61, -1, Integer.MAX_VALUE, Integer.MIN_VALUE}) {
            due("days(" + bad + ")", x.days(bad), NONE);
        }
        due("day", x.count(2), 61);
        due("days(0)", x.days(0), 61);
    }

    private static void daysBySuits() {
        // Behind the first of both suits the two do not quarrel any more.
        MincedCases x = Checks.town("person a 10 0 0 0; person b 0 0 0 0; suit a b 1 0; suit b a 1 0;");
        x.days(1);
        due("turns", x.count(3), 1);
        x.days(5);
        due("turns", x.count(3), 1);
        // In order: a and b first makes 5 5 9, then b and c 7 7.
        MincedCases y = Checks.town("person a 10 0 0 0; person b 0 0 0 0; person c 9 0 0 0; suit a b 5 1; suit b c 5 1;");
        y.days(1);
        due("not due", y.count(3), 0);
        y.days(1);
        people(y, "in order", 5, 0, 0, 0, 7, 0, 0, 0, 7);
        MincedCases z = Checks.town("person a 10 0 0 0; person b 0 0 0 0; person c 9 0 0 0; suit b c 5 1; suit a b 5 1;");
        z.days(2);
        people(z, "in the other order", 7, 0, 0, 0, 7, 0, 0, 0, 4);
        screwHas(z, "in the other order", 1, 0, 0, 0);
        // Quarrelling or not, who have no suit are let be.
        MincedCases w = Checks.town("person a 10 0 0 0; person b 0 0 0 0; quarrels = 1;");
        w.days(30);
        due("turns", w.count(3), 0);
        // Every 4 days from day 3 on: 3, 7, 11, 15.
        MincedCases v = Checks.town("person a 10 0 0 0; person b 0 0 0 0; suit a b 4 3; quarrels = 1;");
        int[] turns = {0, 0, 0, 0, 1, 1, 1, 1, 2, 2, 2, 2, 3, 3, 3, 3, 4};
        for (int day = 0; day < turns.length; day++) {
            due("turns by day " + day, v.count(3), turns[day]);
            v.days(1);
        }
        // A law that looks at the day sees the day that it is.
        MincedCases u = Checks.town("person a 10 0 0 0; person b 0 0 0 0; suit a b 1 0; quarrels = day - 2; costs = day;");
        u.days(6);
        due("days 3, 4, 5", u.count(3), 3);
        due("paid on them", u.count(7), 12);
    }

    private static void thumbs() {
        // LOT 100 of seed 7 on days 0 .. 11, and LOT 4: reckoned apart from the program.
        int[] lot100 = {14, 70, 28, 1, 77, 17, 11, 92, 96, 24, 98, 35};
        int[] lot4 = {3, 2, 1, 0, 0, 3, 2, 1, 1, 0, 3, 2};
        for (int thumb : new int[] {0, 1, 2, 14, 15, 29, 70, 71, 99, 100}) {
            MincedCases x = Checks.town("seed 7; thumb " + thumb + ";");
            int[] screw = new int[4];
            for (int day = 0; day < 12; day++) {
                due("thumb " + thumb + " on day " + day, x.count(12), lot100[day] < thumb ? 1 : 0);
                screw[lot4[day]] += lot100[day] < thumb ? 1 : 0;
                x.days(1);
                screwHas(x, "thumb " + thumb + " behind day " + day, screw);
            }
            x.undo();
            MincedCases y = Checks.town("seed 7; thumb " + thumb + ";");
            y.days(12);
            screwHas(y, "thumb " + thumb + " at once", screw);
        }
        int[] ofSeed9999 = {64, 85, 23, 64, 39, 4, 30, 95, 11, 67, 25, 54};
        int[] ofSeed0 = {48, 33, 63, 35, 83, 28, 70, 99, 34, 95, 73, 45};
        MincedCases x = Checks.town("seed 9999; thumb 40;");
        MincedCases y = Checks.town("thumb 64;");
        for (int day = 0; day < 12; day++) {
            due("seed 9999 on day " + day, x.count(12), ofSeed9999[day] < 40 ? 1 : 0);
            due("seed 0 on day " + day, y.count(12), ofSeed0[day] < 64 ? 1 : 0);
            x.days(1);
            y.days(1);
        }
        // The thumb comes behind the suits: what it put in is there the day after.
        MincedCases z = Checks.town("person a 0 0 0 0; person b 0 0 0 0; suit a b 1 0; quarrels = 1; costs = rest; thumb 100; seed 7;");
        z.days(1);
        due("paid on day 0", z.count(7), 0);
        z.days(1);
        due("paid on day 1", z.count(7), 1);
    }

    private static void undo() {
        MincedCases x = Checks.town(THREE + "thumb 100;");
        x.put(0, 1);
        x.bread(1, 5);
        x.plate(2);
        x.wash();
        x.days(4);
        int[] day = {0, 0, 0, 0, 0};
        int[] fine = {2, 2, 5, 5, 5};
        int[] dull = {0, 0, 40, 40, 0};
        int[] screw1 = {0, 7, 7, 2, 0};
        int[] turns = {1, 1, 1, 1, 0};
        for (int i = 0; i < 5; i++) {
            due("things that can be undone", x.count(9), 5 - i);
            due("undo", x.undo(), true);
            due("day", x.count(2), day[i]);
            due("fine", x.count(4), fine[i]);
            due("dull", x.count(5), dull[i]);
            due("screw", x.screw(1), screw1[i]);
            due("turns", x.count(3), turns[i]);
        }
        due("undo of nothing", x.undo(), false);
        due("paid", x.count(7), 0);
        due("puts", x.person(0, 6), 0);
        people(x, "as told", 10, 4, 0, 1, 3, 4, 6, 0, 3, 4, 6, 0);
        // The last 40 can be undone.
        for (int i = 1; i <= 43; i++) {
            x.bread(0, i);
            due("things", x.count(9), Math.min(i, 40));
        }
        for (int i = 43; i > 3; i--) {
            due("undo " + i, x.undo(), true);
            due("screw", x.screw(0), i * (i - 1) / 2);
        }
        due("undo of the 41st", x.undo(), false);
        due("screw", x.screw(0), 6);
        // What was undone is gone: new things stand in its place.
        x.bread(1, 1);
        x.bread(1, 1);
        x.undo();
        x.bread(2, 9);
        due("undo", x.undo(), true);
        due("undo", x.undo(), true);
        due("undo", x.undo(), false);
        screwHas(x, "undone", 6, 0, 0, 0);
        // What did not happen cannot be undone, nor what only looks.
        x.put(0, 0);
        x.bread(4, 1);
        x.plate(0);
        x.days(0);
        x.days(61);
        x.hold(0);
        x.tell(0, 0, 1, true);
        x.calm(NONE);
        x.then(0, 0, 60);
        x.forget();
        due("nothing done", x.count(9), 0);
    }

    private static void hold() {
        MincedCases x = Checks.town(THREE);
        due("nothing held", x.count(11), 0);
        for (int slot : new int[] {-1, 3, Integer.MAX_VALUE, Integer.MIN_VALUE}) {
            due("hold(" + slot + ")", x.hold(slot), false);
            due("restore(" + slot + ")", x.restore(slot), false);
        }
        for (int slot = 0; slot < 3; slot++) {
            due("restore(" + slot + ") of nothing", x.restore(slot), false);
        }
        due("hold(0)", x.hold(0), true);
        x.put(0, 1);
        x.bread(3, 8);
        due("hold(2)", x.hold(2), true);
        due("slots", x.count(11), 2);
        due("hold undoes nothing", x.count(9), 2);
        x.plate(9);
        x.days(7);
        x.tell(0, 0, 5, true);
        Checks.feed(x, "seed 4; #");
        due("restore(1) of nothing", x.restore(1), false);
        due("things", x.count(9), 4);
        due("restore(2)", x.restore(2), true);
        due("nothing can be undone", x.undo(), false);
        due("day", x.count(2), 0);
        due("fine", x.count(4), 5);
        due("dull", x.count(5), 40);
        due("paid", x.count(7), 7);
        due("turns", x.count(3), 1);
        due("puts", x.person(1, 6), 1);
        people(x, "restored", 6, 3, 1, 0, 6, 3, 1, 0, 3, 4, 6, 0);
        screwHas(x, "restored", 1, 2, 4, 9);
        due("what is told stays", x.count(10), 1);
        due("the tape stays", x.count(8), 9);
        x.wash();
        due("restore(2) once more", x.restore(2), true);
        screwHas(x, "restored", 1, 2, 4, 9);
        due("restore(0)", x.restore(0), true);
        people(x, "restored", 10, 4, 0, 1, 3, 4, 6, 0, 3, 4, 6, 0);
        due("slots", x.count(11), 2);
        x.days(3);
        due("hold(0) anew", x.hold(0), true);
        due("slots", x.count(11), 2);
        x.days(3);
        x.restore(0);
        due("day", x.count(2), 3);
    }

    private static void count() {
        MincedCases x = Checks.town(THREE + "thumb 20; seed 7;");
        int[] atFirst = {3, 2, 0, 0, 5, 0, 0, 0, 0, 0, 0, 0, 1, 41, 7, 0, 2};
        for (int what = 0; what < atFirst.length; what++) {
            due("at first count(" + what + ")", x.count(what), atFirst[what]);
        }
        x.put(0, 1);
        x.feed(1, 2, 3, 4, 5);
        x.tell(0, 0, 1, true);
        x.hold(1);
        int[] then = {3, 2, 0, 1, 5, 40, 8, 7, 20, 1, 1, 1, 1, 33, 7, 15, 2};
        for (int what = 0; what < then.length; what++) {
            due("then count(" + what + ")", x.count(what), then[what]);
        }
        x.wash();
        x.bread(1, 1);
        x.bread(3, 1);
        due("stuffs in the screw", x.count(15), 10);
        x.days(1);
        due("no thumb on day 1", x.count(12), 0);
        for (int bad : new int[] {-1, 17, Integer.MAX_VALUE, Integer.MIN_VALUE}) {
            due("count(" + bad + ")", x.count(bad), NONE);
        }
    }
}
