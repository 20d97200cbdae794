/** The boundary cases of days, laws and turns, and of promises 6 to 15 and 40 to 42. */
final class TownEdges {
    private static final int NONE = MincedCases.NONE;
    private static final int MIN = Integer.MIN_VALUE;
    private static final int MAX = Integer.MAX_VALUE;
    private static final String AB = "person a 10 0 0 0; person b 0 0 0 0; ";
    private static final String THREE = "person a 10 4 0 1; person b 3 4 6 0; person c 3 4 6 0; suit a b 3 2; suit c a 1 0;"
        + "plate 5; quarrels = apart - 1; stays = stuff + 1; dulls = 40; costs = 7;";
    private static final String SIX = "person a 99 99 99 99; person b 0 0 0 0; person c 0 0 0 0; person d 0 0 0 0; person e 0 0 0 0;"
        + "person f 99 99 99 99;";

    private final Edges e;

    private TownEdges(Edges edges) {
        e = edges;
    }

    static void lookAt(Edges edges) {
        TownEdges t = new TownEdges(edges);
        t.ifs();
        t.arithmetic();
        t.divisions();
        t.whatLawsLookAt();
        t.whatLawsAreHeldTo();
        t.lots();
        t.turns();
        t.suitsDue();
        t.thumbs();
        t.byHand();
        t.person();
        t.screw();
        t.suit();
        t.tells();
        t.put();
        t.bread();
        t.plate();
        t.wash();
        t.days();
        t.undo();
        t.hold();
        t.restore();
        t.count();
        t.countAtItsFullest();
        t.manyCalls();
    }

    private static MincedCases read(String text) {
        return Checks.town(text);
    }

    /** A law of two of whom a has 10 of stuff 0 and b 7 of stuff 2. */
    private void law(String law, int want) {
        MincedCases x = read("person a 10 0 0 0; person b 0 0 7 0; costs = " + law + ";");
        e.due("costs = " + law, x.tells(0, 1, 3), want);
    }

    private void has(MincedCases x, String what, int person, int... want) {
        for (int stuff = 0; stuff < want.length; stuff++) {
            e.due(what + ": person " + person + " stuff " + stuff, x.person(person, stuff), want[stuff]);
        }
    }

    private void screwHas(MincedCases x, String what, int... want) {
        for (int stuff = 0; stuff < want.length; stuff++) {
            e.due(what + ": screw " + stuff, x.screw(stuff), want[stuff]);
        }
    }

    // ---- laws ----

    private void ifs() {
        e.edge("II.1", "the E of the first if that holds (one less than the other), else the last one", () -> {
            law("if 1 < 2 then 3 else 4", 3);
            law("if 2 < 2 then 3 else 4", 4);
            law("if 3 < 2 then 3 else 4", 4);
            law("if 0 - 1 < 0 then 3 else 4", 3);
            law("if 0 < 0 - 1 then 3 else 4", 4);
            law("5", 5);
            String no = "if 1 < 1 then 9 else ";
            law(no + "if 0 < 1 then 2 else 3", 2);
            law("if 0 < 1 then 1 else if 0 < 1 then 2 else if 0 < 1 then 3 else if 0 < 1 then 4 else 5", 1);
            law(no + "if 0 < 1 then 2 else if 0 < 1 then 3 else if 0 < 1 then 4 else 5", 2);
            law(no + no + "if 0 < 1 then 3 else if 0 < 1 then 4 else 5", 3);
            law(no + no + no + "if 0 < 1 then 4 else 5", 4);
            law(no + no + no + no + "5", 5);
        });
    }

    private void arithmetic() {
        // 9999 * 9999 * 21 is 2099580021, 99980001 more is above 2147483647; 2048 * 1024 * 1024 wraps to the least of all.
        String least = "2048 * 1024 * 1024";
        e.edge("II.2", "ints of 32 bits that wrap", () -> {
            law("if 9999 * 9999 * 21 < 0 then 1 else 2", 2);
            law("if 9999 * 9999 * 22 < 0 then 1 else 2", 1);
            law("if 9999 * 9999 * 21 + 9999 * 9999 < 0 then 1 else 2", 1);
            law("if 0 < 0 - 9999 * 9999 * 21 - 9999 * 9999 then 1 else 2", 1);
            law("if " + least + " < 0 then 1 else 2", 1);
            law("if " + least + " - 1 < 0 then 1 else 2", 2);
            law("if 0 - " + least + " < 0 then 1 else 2", 1);
            law("5 + 4096 * 16 * 4096 * 16", 5);
            law("4096 * 16 * 4096 * 16 / 2 + 6", 6);
            // The less of two that are farther apart than an int can tell.
            law("if " + least + " < " + least + " - 1 then 1 else 2", 1);
            law("if " + least + " - 1 < " + least + " then 1 else 2", 2);
        });
        e.edge("II.3", "/ rounded towards 0", () -> {
            law("7 / 2", 3);
            law("10 + (0 - 7) / 2", 7);
            law("10 + 7 / (0 - 2)", 7);
            law("(0 - 7) / (0 - 2)", 3);
            law("10 + (0 - 1) / 2", 10);
            law("10 + 1 / 9999", 10);
            law("if " + least + " / (0 - 1) < 0 then 1 else 2", 1);
            law("if 0 < " + least + " / (0 - 1) + " + least + " then 1 else 2", 2);
        });
    }

    private void divisions() {
        e.edge("II.4", "a LAW in which something that is looked at is divided by 0 is 0.", () -> {
            law("5 + 1 / 0", 0);
            law("5 + 0 / 0", 0);
            law("5 + 0 * (1 / 0)", 0);
            law("5 + 1 / (apart - 17)", 0);
            law("5 + 0 / 1", 5);
            law("5 / 0 + 1", 0);
            law("5 / 0 + 4 / 2", 0);
            law("4 / 2 + 5 / 0 + 4 / 2", 0);
            law("if 1 / 0 < 9 / 3 then 4 / 2 else 6 / 2", 0);
            law("if 1 / 0 < 9 then 5 else 6", 0);
            law("if 9 < 1 / 0 then 5 else 6", 0);
            law("if 1 / 0 < 0 - 9 then 5 else 6", 0);
            law("if 0 - 9 < 1 / 0 then 5 else 6", 0);
            law("if 1 < 2 then 5 / 0 else 6", 0);
            law("if 2 < 1 then 5 else 6 / 0", 0);
            law("if 2 < 1 then 5 else if 1 / 0 < 1 then 6 else 7", 0);
            // What is not looked at is free.
            law("if 1 < 2 then 5 else 6 / 0", 5);
            law("if 2 < 1 then 5 / 0 else 6", 6);
            law("if 1 < 2 then 5 else if 1 / 0 < 1 / 0 then 6 / 0 else 7 / 0", 5);
        });
        e.edge("II.5", "is divided by 0 is 0", () -> {
            MincedCases x = read(AB + "stays = 5 + 1 / 0; quarrels = 5 + 1 / 0; dulls = 5 + 1 / 0; costs = 5 + 1 / 0;");
            e.due("they do not quarrel", x.tells(0, 1, 0), 0);
            e.due("dulls", x.tells(0, 1, 2), 0);
            e.due("costs", x.tells(0, 1, 3), 0);
            e.due("stays", x.tells(0, 1, 4), 0);
            x.put(0, 1);
            has(x, "put through", 0, 5);
            e.due("dull", x.count(5), 0);
            e.due("paid", x.count(7), 0);
            // One law divided by 0 leaves the others as they are, and itself the next time.
            MincedCases y = read(AB + "dulls = 4; costs = 20 / dull;");
            y.put(0, 1);
            e.due("dull", y.count(5), 4);
            e.due("paid", y.count(7), 0);
            y.put(0, 1);
            e.due("paid", y.count(7), 5);
        });
    }

    private void whatLawsLookAt() {
        e.edge("II.6", "apart: how much of each STUFF both CASES differ, added.", () -> {
            MincedCases x = read(SIX);
            e.due("alike", x.tells(0, 5, 1), 0);
            e.due("most apart", x.tells(0, 1, 1), 396);
            e.due("the other way round", x.tells(1, 0, 1), 396);
            e.due("the one more of one, the other of another",
                read("person a 9 0 5 0; person b 0 9 0 5;").tells(0, 1, 1), 28);
        });
        e.edge("II.28", "STAYS of a STUFF (apart as of the two ahead of it; stuff: its number", () -> {
            // a and b are 18 apart, a and c 14, b and c 4; of stuff 0 they have 22, 26, 8.
            MincedCases x = read("person a 20 0 0 0; person b 2 0 0 0; person c 6 0 0 0; stays = apart - 4 * stuff;");
            int[][] two = {{0, 1, 18}, {0, 2, 14}, {1, 2, 4}};
            int[] homes = {2, 6, 2};
            for (int i = 0; i < 3; i++) {
                for (int j = 0; j < 3; j++) {
                    // Another two looked at ahead of it change nothing.
                    x.tells(two[j][0], two[j][1], 0);
                    e.due("stays", x.tells(two[i][0], two[i][1], 4), two[i][2]);
                    x.tells(two[j][0], two[j][1], 0);
                    int has = x.person(two[i][0], 0);
                    e.due("gain", x.gain(two[i][0], two[i][1], 0), homes[i] - has);
                    x.tells(two[j][0], two[j][1], 0);
                    e.due("crumbs", x.crumbs(two[i][0], two[i][1], 0, homes[i]), 0);
                    e.due("crumbs", x.crumbs(two[i][0], two[i][1], 0, homes[i] + 1), 2);
                }
            }
            x.tell(0, 0, 3, true);
            e.due("told: not 0 and 1", x.two(1, NONE), 2);
            x.put(0, 2);
            has(x, "put through", 0, 6);
            has(x, "put through", 2, 6);
            // The first of four stuffs does not change what the last sees.
            MincedCases y = read("person a 9 9 9 9; person b 0 0 0 0; stays = apart / 6;");
            y.put(0, 1);
            screwHas(y, "6 of each, and an odd one", 7, 7, 7, 7);
        });
        e.edge("II.7", "most: how much the one with more has", () -> {
            String law = " stays = most;";
            e.due("the first has more", read("person a 9 0 0 0; person b 4 0 0 0;" + law).tells(0, 1, 4), 9);
            e.due("the second has more", read("person a 4 0 0 0; person b 9 0 0 0;" + law).tells(0, 1, 4), 9);
            e.due("alike", read("person a 9 0 0 0; person b 9 0 0 0;" + law).tells(0, 1, 4), 9);
            e.due("nothing", read("person a 0 9 9 9; person b 0 9 9 9;" + law).tells(0, 1, 4), 0);
            e.due("by a gain", read("person a 4 0 0 0; person b 9 0 0 0;" + law).gain(0, 1, 0), -2);
            e.due("by a gain", read("person a 4 0 0 0; person b 9 0 0 0;" + law).gain(1, 0, 0), -7);
        });
        e.edge("II.8", "most: by how much they differ most, of any STUFF; stuff: of which, the first", () -> {
            String[] cases = {"5 5 5 5", "9 5 5 5", "5 1 9 5", "5 6 1 9", "4 6 4 6", "5 5 5 6", "5 6 7 8"};
            int[] stuffs = {0, 0, 1, 2, 0, 3, 3};
            int[] mosts = {0, 4, 4, 4, 1, 1, 3};
            for (int i = 0; i < cases.length; i++) {
                String two = "person a " + cases[i] + "; person b 5 5 5 5;";
                e.due("stuff of " + cases[i], read(two + "costs = stuff;").tells(0, 1, 3), stuffs[i]);
                e.due("most of " + cases[i], read(two + "costs = most;").tells(0, 1, 3), mosts[i]);
                String quarrels = "quarrels = if stuff < " + stuffs[i] + " then 0 else if " + stuffs[i]
                    + " < stuff then 0 else if most < " + mosts[i] + " then 0 else if " + mosts[i] + " < most then 0 else 1;";
                e.due("quarrels of " + cases[i], read(two + quarrels).tells(0, 1, 0), 1);
            }
        });
        e.edge("II.9", "rest, all 0)", () -> {
            String[] laws = {"rest", "all", "0 - rest", "0 - all", "1 - rest * rest - all * all"};
            int[] want = {0, 0, 0, 0, 1};
            for (int i = 0; i < laws.length; i++) {
                MincedCases x = read("person a 10 4 0 1; person b 3 4 6 0; quarrels = " + laws[i] + ";");
                x.bread(0, 99);
                x.bread(3, 99);
                // Laws that look at rest and all stand ahead of it.
                x.tells(0, 1, 3);
                x.tells(0, 1, 4);
                e.due("quarrels = " + laws[i], x.tells(0, 1, 0), want[i]);
            }
        });
        e.edge("II.10", "all: how much both CASES have of all STUFFS; rest: how much is in the screw of all", () -> {
            MincedCases x = read("person a 1 2 3 4; person b 5 6 7 8; person c 50 0 0 0; dulls = all; costs = rest;");
            e.due("all", x.tells(0, 1, 2), 36);
            e.due("rest of nothing", x.tells(0, 1, 3), 0);
            for (int stuff = 0; stuff < 4; stuff++) {
                x.bread(stuff, 10 + stuff);
            }
            e.due("all is without the screw", x.tells(0, 1, 2), 36);
            e.due("rest", x.tells(0, 1, 3), 46);
            e.due("all of nothing", read("person a 0 0 0 0; person b 0 0 0 0; costs = all;").tells(0, 1, 3), 0);
        });
        e.edge("II.11", "they QUARREL if it tells more than 0.", () -> {
            String[] laws = {"0 - 1", "0", "1", "9999", "2048 * 1024 * 1024", "2048 * 1024 * 1024 - 1"};
            int[] want = {0, 0, 1, 1, 0, 1};
            for (int i = 0; i < laws.length; i++) {
                e.due("quarrels = " + laws[i], read(AB + "quarrels = " + laws[i] + ";").tells(0, 1, 0), want[i]);
            }
            e.due("by apart alone, 0", read("person a 1 1 1 1; person b 1 1 1 1;").tells(0, 1, 0), 0);
            e.due("by apart alone, 1", read("person a 1 1 1 1; person b 1 1 1 2;").tells(0, 1, 0), 1);
        });
    }

    private void whatLawsAreHeldTo() {
        e.edge("II.12", "held to 0 .. all.", () -> {
            // Of stuff 0 both and the screw have 13, of stuff 1 nothing at all.
            String[] laws = {"0 - 1", "0", "1", "12", "13", "14", "9999", "all + 1", "0 - 9999 * 9999", "9999 * 9999"};
            int[] want = {0, 0, 1, 12, 13, 13, 13, 13, 0, 13};
            for (int i = 0; i < laws.length; i++) {
                MincedCases x = read("person a 6 0 0 0; person b 4 0 0 0; stays = " + laws[i] + ";");
                x.bread(0, 3);
                e.due("stays = " + laws[i], x.tells(0, 1, 4), want[i]);
                e.due("of nothing: stays = " + laws[i], x.tells(0, 1, 5), 0);
                x.put(0, 1);
                int home = (13 - want[i]) / 2;
                has(x, "stays = " + laws[i], 0, home, 0);
                has(x, "stays = " + laws[i], 1, home, 0);
                screwHas(x, "stays = " + laws[i], 13 - 2 * home, 0);
            }
        });
        e.edge("II.13", "held to 0 .. 99.", () -> {
            String[] laws = {"0 - 9999", "0 - 1", "0", "1", "98", "99", "100", "9999", "9999 * 9999", "0 - 9999 * 9999"};
            int[] want = {0, 0, 0, 1, 98, 99, 99, 99, 99, 0};
            for (int i = 0; i < laws.length; i++) {
                MincedCases x = read(AB + "dulls = " + laws[i] + "; costs = " + laws[i] + ";");
                e.due("dulls = " + laws[i], x.tells(0, 1, 2), want[i]);
                e.due("costs = " + laws[i], x.tells(0, 1, 3), want[i]);
                x.put(0, 1);
                e.due("dull", x.count(5), want[i]);
                e.due("paid", x.count(7), want[i]);
                x.put(0, 1);
                e.due("paid twice", x.count(7), 2 * want[i]);
            }
        });
    }

    private void lots() {
        // Reckoned apart from the program. With ones coming in, or a rest below 0, nearly all would be others.
        int[] seeds = {0, 1, 7, 5000, 9999};
        int[][] lot100 = {{48, 33, 63, 35, 83, 28, 70, 99, 34, 95, 73, 45}, {95, 46, 25, 8, 2, 74, 88, 11, 77, 57, 7, 58},
            {14, 70, 28, 1, 77, 17, 11, 92, 96, 24, 98, 35}, {28, 85, 83, 11, 81, 18, 3, 8, 86, 23, 76, 9},
            {64, 85, 23, 64, 39, 4, 30, 95, 11, 67, 25, 54}};
        int[][] lot4 = {{0, 0, 2, 1, 1, 1, 3, 2, 3, 2, 0, 3}, {0, 1, 3, 3, 1, 2, 3, 0, 2, 3, 0, 1},
            {3, 2, 1, 0, 0, 3, 2, 1, 1, 0, 3, 2}, {3, 2, 1, 0, 2, 2, 0, 3, 1, 1, 3, 2}, {3, 2, 0, 0, 0, 3, 1, 1, 1, 0, 2, 1}};
        e.edge("II.14", "h moved 15 bits down (zeros come in), likewise; the rest of h, moved 1 bit down likewise, by n"
            + " (32 bits that wrap).", () -> {
            for (int i = 0; i < seeds.length; i++) {
                for (int day = 0; day < 12; day++) {
                    for (int more = 0; more < 2; more++) {
                        MincedCases x = read("seed " + seeds[i] + "; thumb " + (lot100[i][day] + more) + ";");
                        x.days(day);
                        e.due("seed " + seeds[i] + " day " + day + " thumb " + more, x.count(12), more);
                    }
                }
            }
        });
        e.edge("II.15", "1 of the STUFF LOT 4 of the SEED and 4 * the day and 1 is in the screw more.", () -> {
            for (int i = 0; i < seeds.length; i++) {
                MincedCases x = read("seed " + seeds[i] + "; thumb 100;");
                int[] want = new int[4];
                for (int day = 0; day < 12; day++) {
                    x.days(1);
                    want[lot4[i][day]]++;
                    screwHas(x, "seed " + seeds[i] + " behind day " + day, want);
                }
            }
        });
    }

    // ---- turns and days ----

    private void turns() {
        e.edge("II.16", "of what comes out each takes home half, an odd one stays in, too", () -> {
            for (int all = 0; all <= 5; all++) {
                for (int stays = 0; stays <= all; stays++) {
                    MincedCases x = read("person a " + all + " 0 0 0; person b 0 0 0 0; stays = " + stays + ";");
                    x.put(1, 0);
                    String what = stays + " of " + all + " stays";
                    has(x, what, 0, (all - stays) / 2);
                    has(x, what, 1, (all - stays) / 2);
                    screwHas(x, what, stays + (all - stays) % 2);
                }
            }
            MincedCases y = read("person a 99 99 99 99; person b 99 99 99 98;");
            y.put(0, 1);
            has(y, "full cases", 0, 99, 99, 99, 98);
            has(y, "full cases", 1, 99, 99, 99, 98);
            screwHas(y, "full cases", 0, 0, 0, 1);
            // A case may come to have more than can be told.
            y.bread(0, 99);
            y.bread(0, 99);
            y.put(0, 1);
            has(y, "fuller cases", 0, 198);
        });
        e.edge("II.17", "the PLATE is duller by DULLS (99 at most)", () -> {
            MincedCases x = read(AB + "dulls = if turns < 1 then 98 else 1;");
            int[] want = {98, 99, 99, 99};
            for (int dull : want) {
                x.put(0, 1);
                e.due("dull", x.count(5), dull);
            }
            MincedCases y = read(AB + "dulls = 60;");
            y.put(0, 1);
            y.put(0, 1);
            e.due("60 and 60", y.count(5), 99);
            MincedCases z = read(AB + "dulls = 99;");
            z.put(0, 1);
            z.put(0, 1);
            e.due("99 and 99", z.count(5), 99);
        });
        e.edge("II.18", "Two are PUT THROUGH, all by how it was ahead of it", () -> {
            // Ahead of it nothing is dull, turned or in the screw, and they are 40 apart.
            String two = "person a 10 10 10 10; person b 0 0 0 0; ";
            MincedCases x = read(two + "stays = rest + turns + dull + apart / 10; dulls = 3 + turns; costs = dull + turns + rest;");
            x.put(0, 1);
            has(x, "stays = 4", 0, 3, 3, 3, 3);
            screwHas(x, "stays = 4", 4, 4, 4, 4);
            e.due("dull", x.count(5), 3);
            e.due("paid", x.count(7), 0);
            // Now 3 dull, 1 turn, 4 of each in the screw, 0 apart: stays = 4 + 1 + 3 + 0 of 10.
            x.put(1, 0);
            has(x, "stays = 8", 0, 1, 1, 1, 1);
            screwHas(x, "stays = 8", 8, 8, 8, 8);
            e.due("dull", x.count(5), 7);
            e.due("paid", x.count(7), 20);
        });
    }

    private void suitsDue() {
        e.edge("II.19", "each SUIT that is due (the day is from which on, or a multiple of every how many behind it)", () -> {
            int[][] suits = {{1, 0}, {1, 29}, {30, 0}, {30, 29}, {7, 3}, {2, 1}};
            for (int[] s : suits) {
                MincedCases x = read(AB + "suit a b " + s[0] + " " + s[1] + "; quarrels = 1;");
                int turns = 0;
                for (int day = 0; day < 100; day++) {
                    boolean due = day >= s[1] && (day - s[1]) % s[0] == 0;
                    e.due("suit " + s[0] + " " + s[1] + " on day " + day, x.suit(0, 4), due ? 1 : 0);
                    turns += due ? 1 : 0;
                    x.days(1);
                    e.due("turns of " + s[0] + " " + s[1] + " behind day " + day, x.count(3), turns);
                }
            }
        });
        e.edge("II.20", "in order, is PUT THROUGH if both QUARREL then", () -> {
            MincedCases x = read(AB + "suit a b 1 0; suit b a 1 0;");
            x.days(1);
            e.due("settled by the suit ahead", x.count(3), 1);
            MincedCases y = read("person a 8 0 0 0; person b 8 0 0 0; person c 0 0 0 0; suit a b 1 0; suit b c 1 0; suit a b 1 0;");
            y.days(1);
            // a and b do not quarrel; b and c: 4 each; then a and b do: 6 each.
            e.due("stirred up by the suit ahead", y.count(3), 2);
            has(y, "stirred up", 0, 6);
            has(y, "stirred up", 1, 6);
            has(y, "stirred up", 2, 4);
            MincedCases z = read(AB + "suit a b 1 0; quarrels = 0;");
            z.days(60);
            e.due("they do not quarrel", z.count(3), 0);
        });
        e.edge("II.21", "It is the next day.", () -> {
            MincedCases x = read(AB + "suit a b 1 0; quarrels = day; costs = day;");
            e.due("day", x.count(2), 0);
            x.days(1);
            e.due("day", x.count(2), 1);
            e.due("on day 0 they did not quarrel", x.count(3), 0);
            x.days(1);
            e.due("on day 1 they did", x.count(3), 1);
            e.due("by the costs of day 1", x.count(7), 1);
            x.days(60);
            e.due("days are counted on", x.count(2), 62);
        });
    }

    private void thumbs() {
        e.edge("II.22", "if there is a THUMB (LOT 100 of the SEED and 4 * the day is less than that)", () -> {
            // LOT 100 of seed 7: 14 on day 0, 70 on day 1, 28 on day 2, 1 on day 3.
            int[] lots = {14, 70, 28, 1};
            // Of seed 79 it is 0 on day 0.
            e.due("0 is less than 1", read("seed 79; thumb 1;").count(12), 1);
            e.due("0 is not less than 0", read("seed 79; thumb 0;").count(12), 0);
            for (int thumb : new int[] {0, 1, 2, 13, 14, 15, 28, 29, 69, 70, 71, 99, 100}) {
                MincedCases x = read("seed 7; thumb " + thumb + ";");
                int in = 0;
                for (int lot : lots) {
                    x.days(1);
                    in += lot < thumb ? 1 : 0;
                    e.due("thumb " + thumb + " and lot " + lot, x.count(6), in);
                }
            }
        });
        e.edge("II.23", "in order, is PUT THROUGH if both QUARREL then; then, if there is a THUMB", () -> {
            // The suits of a day do not see its thumb, those of the next day do.
            MincedCases x = read(AB + "suit a b 1 0; quarrels = 1; costs = rest; thumb 100; stays = all;");
            int[] paid = {0, 11, 23, 36};
            for (int i = 0; i < paid.length; i++) {
                x.days(1);
                e.due("paid behind day " + i, x.count(7), paid[i]);
            }
        });
    }

    private void byHand() {
        e.edge("II.24", "two are PUT THROUGH, QUARRELLING or not", () -> {
            MincedCases x = read("person a 4 0 0 0; person b 4 0 0 0; quarrels = 0; dulls = 1; costs = 2;");
            e.due("put", x.put(0, 1), 1);
            e.due("dull", x.count(5), 1);
            e.due("paid", x.count(7), 2);
        });
        e.edge("II.25", "BREAD: v (1 .. 99) of a STUFF into the screw", () -> {
            MincedCases x = read(AB);
            for (int stuff = 0; stuff < 4; stuff++) {
                x.bread(stuff, 1);
                x.bread(stuff, 99);
                x.bread(stuff, 100);
                x.bread(stuff, 0);
                e.due("screw " + stuff, x.screw(stuff), 100);
            }
            // The screw holds as much as is put in.
            for (int i = 0; i < 100; i++) {
                x.bread(2, 99);
            }
            e.due("the screw has no end", x.screw(2), 10000);
        });
        e.edge("II.26", "a PLATE 1 .. 9 is put on, not dull", () -> {
            for (int fine = 1; fine <= 9; fine++) {
                MincedCases x = read(AB + "plate 5; dulls = 99;");
                x.put(0, 1);
                e.due("plate", x.plate(fine), true);
                e.due("fine", x.count(4), fine);
                e.due("not dull", x.count(5), 0);
            }
        });
        e.edge("II.27", "the screw is WASHED: what is in it is gone", () -> {
            MincedCases x = read(AB);
            x.wash();
            screwHas(x, "an empty one", 0, 0, 0, 0);
            for (int stuff = 0; stuff < 4; stuff++) {
                x.bread(stuff, 99);
            }
            x.wash();
            screwHas(x, "a full one", 0, 0, 0, 0);
            e.due("cases are left", x.count(13), 10);
        });
    }

    // ---- promises 6 to 9: what is so ----

    private void person() {
        e.edge("6.1", "what 0 .. 3 how much of that STUFF, 4 of all, added", () -> {
            MincedCases x = read(SIX);
            has(x, "a full case", 5, 99, 99, 99, 99);
            has(x, "an empty case", 1, 0, 0, 0, 0);
            e.due("of all, full", x.person(5, 4), 396);
            e.due("of all, empty", x.person(1, 4), 0);
        });
        e.edge("6.2", "5 who QUARRELS with them (bits)", () -> {
            MincedCases all = read(SIX + "quarrels = 1;");
            MincedCases none = read(SIX + "quarrels = 0;");
            for (int p = 0; p < 6; p++) {
                e.due("all but themselves", all.person(p, 5), 63 - (1 << p));
                e.due("nobody", none.person(p, 5), 0);
            }
            e.due("one alone", read("person a 1 1 1 1; quarrels = 1;").person(0, 5), 0);
            e.due("those who differ", read(SIX).person(0, 5), 30);
        });
        e.edge("6.3", "6 how often put through so far.", () -> {
            MincedCases x = read(THREE);
            e.due("not yet", x.person(0, 6), 0);
            x.put(2, 1);
            e.due("not a", x.person(0, 6), 0);
            e.due("b", x.person(1, 6), 1);
            e.due("c", x.person(2, 6), 1);
            x.put(0, 0);
            e.due("refused", x.person(0, 6), 0);
            x.days(1);
            e.due("by a suit", x.person(0, 6), 1);
            e.due("by a suit", x.person(2, 6), 2);
        });
        e.edge("6.4", "NONE for others.", () -> {
            MincedCases x = read(THREE);
            for (int bad : new int[] {-1, -2, 3, 5, 6, 7, MIN, MAX}) {
                e.due("person " + bad, x.person(bad, 0), NONE);
                e.due("person " + bad, x.person(bad, 4), NONE);
                e.due("person " + bad, x.person(bad, 5), NONE);
                e.due("person " + bad, x.person(bad, 6), NONE);
            }
            for (int bad : new int[] {-1, -2, 7, 8, MIN, MAX}) {
                e.due("what " + bad, x.person(0, bad), NONE);
            }
            e.due("the last person is one", x.person(2, 6), 0);
            e.due("a seventh of six", read(SIX).person(6, 0), NONE);
        });
    }

    private void screw() {
        e.edge("7.1", "NONE: no such STUFF.", () -> {
            MincedCases x = read(THREE);
            x.bread(0, 5);
            x.bread(3, 7);
            screwHas(x, "stuffs 0 .. 3", 5, 0, 0, 7);
            for (int bad : new int[] {-1, 4, 5, MIN, MAX}) {
                e.due("screw(" + bad + ")", x.screw(bad), NONE);
            }
        });
    }

    private void suit() {
        e.edge("8.1", "4: 1 due today, else 0.", () -> {
            MincedCases x = read(AB + "suit a b 3 2;");
            int[] want = {0, 0, 1, 0, 0, 1};
            for (int day = 0; day < want.length; day++) {
                e.due("day " + day, x.suit(0, 4), want[day]);
                x.days(1);
            }
            e.due("due though they do not quarrel", read(AB + "suit a b 1 0; quarrels = 0;").suit(0, 4), 1);
        });
        e.edge("8.2", "Of a SUIT: what 0 one PERSON, 1 the other, 2 every how many days, 3 from which on", () -> {
            MincedCases x = read(SIX + "suit f a 30 29;" + "suit a b 1 0;".repeat(6) + "suit b f 1 0;");
            int[] first = {5, 0, 30, 29};
            int[] last = {1, 5, 1, 0};
            for (int what = 0; what < 4; what++) {
                e.due("suit(0, " + what + ")", x.suit(0, what), first[what]);
                e.due("suit(7, " + what + ")", x.suit(7, what), last[what]);
            }
        });
        e.edge("8.3", "4: 1 due today, else 0. NONE for others.", () -> {
            MincedCases x = read(THREE);
            for (int bad : new int[] {-1, 2, 3, 7, 8, MIN, MAX}) {
                for (int what = 0; what <= 4; what++) {
                    e.due("suit " + bad, x.suit(bad, what), NONE);
                }
            }
            for (int bad : new int[] {-1, 5, 6, MIN, MAX}) {
                e.due("what " + bad, x.suit(1, bad), NONE);
            }
            e.due("a ninth of eight", read(AB + "suit a b 1 0;".repeat(8)).suit(8, 0), NONE);
        });
    }

    private void tells() {
        e.edge("9.1", "Of two: what 0: 1 they QUARREL, else 0, 1 apart, 2 DULLS, 3 COSTS, 4 .. 7 STAYS of that STUFF less 4, now", () -> {
            MincedCases x = read(THREE);
            int[] want = {1, 14, 40, 7, 1, 2, 3, 1};
            int[] alike = {0, 0, 40, 7, 1, 2, 3, 0};
            for (int what = 0; what < 8; what++) {
                e.due("tells(0, 1, " + what + ")", x.tells(0, 1, what), want[what]);
                e.due("tells(1, 0, " + what + ")", x.tells(1, 0, what), want[what]);
                e.due("tells(2, 1, " + what + ")", x.tells(2, 1, what), alike[what]);
            }
        });
        e.edge("9.2", "now; NONE: no such ones", () -> {
            MincedCases x = read(THREE);
            for (int bad : new int[] {-1, 3, 6, MIN, MAX}) {
                for (int what = 0; what < 8; what++) {
                    e.due("person " + bad, x.tells(bad, 0, what), NONE);
                    e.due("other " + bad, x.tells(0, bad, what), NONE);
                }
            }
            for (int bad : new int[] {-1, 8, 9, MIN, MIN + 3, MIN + 4, MAX}) {
                e.due("what " + bad, x.tells(0, 1, bad), NONE);
            }
        });
        e.edge("9.3", "now; NONE: no such ones, one and the same.", () -> {
            MincedCases x = read(THREE + "quarrels = 1;");
            for (int what = 0; what < 8; what++) {
                e.due("tells(1, 1, " + what + ")", x.tells(1, 1, what), NONE);
            }
        });
    }

    // ---- promises 10 to 15: what is done ----

    /** A refused call leaves all as it is. */
    private void refused(String what, MincedCases x, Runnable calls) {
        int[] ahead = Edges.all(x);
        calls.run();
        e.same(what, Edges.all(x), ahead);
    }

    private static MincedCases busy() {
        MincedCases x = read(THREE);
        x.put(0, 1);
        x.bread(2, 9);
        return x;
    }

    private void put() {
        e.edge("10.1", "PUT THROUGH: how many turns so far", () -> {
            MincedCases x = read(THREE);
            e.due("the first", x.put(0, 1), 1);
            e.due("the second", x.put(1, 0), 2);
            x.days(1);
            e.due("behind one by a suit", x.put(2, 0), 4);
            x.undo();
            e.due("behind one undone", x.put(2, 0), 4);
        });
        e.edge("10.2", "NONE, and nothing happens: no such ones", () -> {
            MincedCases x = busy();
            refused("no such ones", x, () -> {
                for (int bad : new int[] {-1, 3, 6, MIN, MAX}) {
                    e.due("put(" + bad + ", 0)", x.put(bad, 0), NONE);
                    e.due("put(0, " + bad + ")", x.put(0, bad), NONE);
                }
                e.due("put(-1, -1)", x.put(-1, -1), NONE);
            });
            e.due("nobody", new MincedCases().put(0, 1), NONE);
            e.due("one alone", read("person a 1 1 1 1;").put(0, 1), NONE);
        });
        e.edge("10.3", "NONE, and nothing happens: no such ones, one and the same.", () -> {
            MincedCases x = busy();
            refused("one and the same", x, () -> {
                for (int p = 0; p < 3; p++) {
                    e.due("put(" + p + ", " + p + ")", x.put(p, p), NONE);
                }
            });
        });
    }

    private void bread() {
        e.edge("11.1", "BREAD: true", () -> {
            MincedCases x = new MincedCases();
            e.due("the least", x.bread(0, 1), true);
            e.due("the most", x.bread(3, 99), true);
            screwHas(x, "bread", 1, 0, 0, 99);
            e.due("things", x.count(9), 2);
        });
        e.edge("11.2", "false, and nothing happens: no such STUFF", () -> {
            MincedCases x = busy();
            refused("no such stuff", x, () -> {
                for (int bad : new int[] {-1, 4, 5, MIN, MAX}) {
                    e.due("bread(" + bad + ", 1)", x.bread(bad, 1), false);
                }
            });
        });
        e.edge("11.3", "false, and nothing happens: no such STUFF, no such v.", () -> {
            MincedCases x = busy();
            refused("no such v", x, () -> {
                for (int bad : new int[] {-1, 0, 100, 101, MIN, MAX}) {
                    e.due("bread(0, " + bad + ")", x.bread(0, bad), false);
                }
            });
        });
    }

    private void plate() {
        e.edge("12.1", "false, and nothing happens: no such one", () -> {
            MincedCases x = busy();
            refused("no such plate", x, () -> {
                for (int bad : new int[] {-1, 0, 10, 11, MIN, MAX}) {
                    e.due("plate(" + bad + ")", x.plate(bad), false);
                }
            });
        });
        e.edge("12.2", "false, and nothing happens: no such one, that is on and not dull.", () -> {
            MincedCases x = read(THREE);
            refused("on and not dull", x, () -> e.due("plate(5)", x.plate(5), false));
            x.put(0, 1);
            e.due("on and dull", x.plate(5), true);
            refused("on and not dull", x, () -> e.due("plate(5)", x.plate(5), false));
            e.due("not on and not dull", x.plate(6), true);
            e.due("not on any more", x.plate(5), true);
            MincedCases y = new MincedCases();
            e.due("the one on at first", y.plate(1), false);
            e.due("things", y.count(9), 0);
        });
        e.edge("12.3", "A PLATE is put on: true", () -> {
            MincedCases x = new MincedCases();
            e.due("the finest", x.plate(9), true);
            e.due("the coarsest", x.plate(1), true);
            e.due("things", x.count(9), 2);
        });
    }

    private void wash() {
        e.edge("13.1", "WASHED: how much is gone.", () -> {
            MincedCases x = new MincedCases();
            e.due("nothing", x.wash(), 0);
            e.due("is a thing done", x.count(9), 1);
            for (int stuff = 0; stuff < 4; stuff++) {
                x.bread(stuff, 1 + stuff);
            }
            e.due("of all", x.wash(), 10);
            e.due("nothing more", x.wash(), 0);
        });
    }

    private void days() {
        e.edge("14.1", "n DAYS (0 .. 60; 0 is no thing done) go by: which it is", () -> {
            MincedCases x = busy();
            refused("0 days", x, () -> e.due("days(0)", x.days(0), 0));
            e.due("days(1)", x.days(1), 1);
            e.due("things", x.count(9), 3);
            e.due("days(60)", x.days(60), 61);
            e.due("things", x.count(9), 4);
            e.due("days(0)", x.days(0), 61);
            e.due("things", x.count(9), 4);
        });
        e.edge("14.2", "NONE, and nothing happens: no such n.", () -> {
            MincedCases x = busy();
            refused("no such n", x, () -> {
                for (int bad : new int[] {-1, 61, 62, MIN, MAX}) {
                    e.due("days(" + bad + ")", x.days(bad), NONE);
                }
            });
        });
    }

    private void undo() {
        e.edge("15.1", "The last thing done (put, bread, plate, wash, days) is undone: true", () -> {
            Runnable[] things = new Runnable[5];
            MincedCases x = busy();
            things[0] = () -> x.put(0, 2);
            things[1] = () -> x.bread(1, 4);
            things[2] = () -> x.plate(3);
            things[3] = () -> x.wash();
            things[4] = () -> x.days(5);
            for (int i = 0; i < things.length; i++) {
                int turns = x.count(3);
                int day = x.count(2);
                int fine = x.count(4);
                int dull = x.count(5);
                int in = x.count(6);
                int paid = x.count(7);
                int cases = x.count(13);
                int puts = x.person(0, 6);
                things[i].run();
                e.due("things behind thing " + i, x.count(9), 3);
                e.due("undo of thing " + i, x.undo(), true);
                int[] got = {x.count(3), x.count(2), x.count(4), x.count(5), x.count(6), x.count(7), x.count(13), x.person(0, 6)};
                int[] want = {turns, day, fine, dull, in, paid, cases, puts};
                e.same("undone thing " + i, got, want);
            }
        });
        e.edge("15.2", "false: there is none", () -> {
            e.due("of a new object", new MincedCases().undo(), false);
            MincedCases x = read(THREE);
            e.due("of a new text", x.undo(), false);
            x.bread(0, 1);
            e.due("of one thing", x.undo(), true);
            refused("none is left", x, () -> e.due("undo", x.undo(), false));
            // What only looks, is held, told or refused is no thing done.
            x.hold(0);
            x.tell(0, 0, 1, true);
            x.forget();
            x.days(0);
            x.put(0, 0);
            x.bread(0, 100);
            x.plate(5);
            x.calm(NONE);
            x.feed(0, 0, 0, 0, 0);
            e.due("of no thing done", x.undo(), false);
        });
        e.edge("15.3", "(the last 40 can be)", () -> {
            MincedCases x = read(THREE);
            for (int i = 1; i <= 41; i++) {
                x.bread(0, i);
                e.due("things behind " + i, x.count(9), Math.min(i, 40));
            }
            for (int i = 41; i >= 2; i--) {
                e.due("undo " + i, x.undo(), true);
                e.due("screw", x.screw(0), i * (i - 1) / 2);
            }
            e.due("the first of 41", x.undo(), false);
            e.due("screw", x.screw(0), 1);
            // Half of them undone, there is room for as many again.
            for (int i = 0; i < 60; i++) {
                x.bread(1, 1);
            }
            for (int i = 0; i < 20; i++) {
                x.undo();
            }
            e.due("things", x.count(9), 20);
            for (int i = 0; i < 30; i++) {
                x.bread(2, 1);
            }
            e.due("things", x.count(9), 40);
            for (int i = 0; i < 40; i++) {
                e.due("undo", x.undo(), true);
            }
            e.due("no more", x.undo(), false);
            screwHas(x, "10 of the 40 ahead are left undone", 1, 30, 0, 0);
        });
    }

    // ---- promises 40 to 42 ----

    private void hold() {
        e.edge("40.1", "is held in a SLOT (0 .. 2): true", () -> {
            MincedCases x = read(THREE);
            for (int slot = 0; slot < 3; slot++) {
                e.due("hold(" + slot + ")", x.hold(slot), true);
                e.due("slots", x.count(11), slot + 1);
                x.days(1);
            }
            e.due("held anew", x.hold(1), true);
            e.due("slots", x.count(11), 3);
            int[] day = {0, 3, 2};
            for (int slot = 0; slot < 3; slot++) {
                x.restore(slot);
                e.due("day of slot " + slot, x.count(2), day[slot]);
            }
            MincedCases y = new MincedCases();
            e.due("of nobody", y.hold(0), true);
            e.due("of nobody", y.restore(0), true);
        });
        e.edge("40.2", "All that goes on (not what is TOLD, nor the tape)", () -> {
            MincedCases x = busy();
            x.days(1);
            x.hold(0);
            int[] ahead = Edges.all(x);
            x.put(1, 2);
            x.plate(9);
            x.days(4);
            x.wash();
            x.tell(0, 0, 1, true);
            x.tell(0, 0, 2, true);
            x.feed(1, 2, 3, 4, 5);
            x.restore(0);
            int[] behind = Edges.all(x);
            e.due("the tape", behind[8], 20);
            e.due("what is told", behind[10], 2);
            behind[8] = ahead[8];
            behind[9] = ahead[9];
            behind[10] = ahead[10];
            e.same("restored", behind, ahead);
            // What was told or fed ahead of it does not come back either.
            x.hold(1);
            x.forget();
            x.back(20);
            x.restore(1);
            e.due("the tape", x.count(8), 0);
            e.due("what is told", x.count(10), 0);
        });
        e.edge("40.3", "is held in a SLOT (0 .. 2): true; false: no such one.", () -> {
            MincedCases x = busy();
            refused("no such slot", x, () -> {
                for (int bad : new int[] {-1, 3, 4, MIN, MAX}) {
                    e.due("hold(" + bad + ")", x.hold(bad), false);
                }
            });
            x.hold(2);
            e.due("hold is no thing done", x.count(9), 2);
            e.due("and undoes none", x.undo(), true);
            x.restore(2);
            e.due("nor is it undone", x.count(6), 17);
        });
    }

    private void restore() {
        e.edge("41.1", "(that stays there; nothing can be undone then): true", () -> {
            MincedCases x = busy();
            x.hold(0);
            for (int i = 0; i < 3; i++) {
                x.bread(0, 5);
                e.due("restore", x.restore(0), true);
                e.due("screw", x.count(6), 17);
                e.due("slots", x.count(11), 1);
            }
        });
        e.edge("41.2", "nothing can be undone then)", () -> {
            MincedCases x = busy();
            x.hold(0);
            x.bread(0, 5);
            x.restore(0);
            e.due("things", x.count(9), 0);
            e.due("undo", x.undo(), false);
            e.due("screw", x.count(6), 17);
            x.bread(0, 1);
            e.due("undo of a new thing", x.undo(), true);
            e.due("undo of an old one", x.undo(), false);
            e.due("screw", x.count(6), 17);
        });
        e.edge("41.3", "false, and nothing happens: no such one, nothing is held.", () -> {
            MincedCases x = busy();
            x.hold(1);
            x.bread(0, 5);
            refused("no such slot", x, () -> {
                for (int bad : new int[] {-1, 3, 4, MIN, MAX}) {
                    e.due("restore(" + bad + ")", x.restore(bad), false);
                }
            });
            refused("nothing is held", x, () -> {
                e.due("restore(0)", x.restore(0), false);
                e.due("restore(2)", x.restore(2), false);
            });
            e.due("undo", x.undo(), true);
            for (int slot = 0; slot < 3; slot++) {
                e.due("of a new object", new MincedCases().restore(slot), false);
            }
        });
    }

    private void counts(String what, MincedCases x, int... want) {
        for (int i = 0; i < want.length; i++) {
            e.due(what + ": count(" + i + ")", x.count(i), want[i]);
        }
    }

    private void count() {
        e.edge("42.1", "16 SUITS that are due today (bits). NONE for others.", () -> {
            MincedCases x = read(THREE);
            for (int bad : new int[] {-1, -2, 17, 18, MIN, MAX}) {
                e.due("count(" + bad + ")", x.count(bad), NONE);
            }
        });
        e.edge("42.2", "0 PEOPLE, 1 SUITS, 2 the day, 3 turns so far", () -> {
            counts("a new object", new MincedCases(), 0, 0, 0, 0, 1, 0, 0, 0, 0, 0, 0, 0, 0, 0, 0, 0, 0);
            counts("an empty text", read(""), 0, 0, 0, 0, 1, 0, 0, 0, 0, 0, 0, 0, 0, 0, 0, 0, 0);
            counts("one with nothing", read("person a 0 0 0 0;"), 1, 0, 0, 0, 1, 0, 0, 0, 0, 0, 0, 0, 0, 0, 0, 0, 0);
        });
        e.edge("42.3", "7 what was paid so far", () -> {
            MincedCases x = read(AB + "costs = 99; suit a b 1 0; quarrels = 1;");
            e.due("nothing", x.count(7), 0);
            x.days(60);
            x.days(60);
            e.due("120 times", x.count(7), 120 * 99);
            x.undo();
            e.due("undone", x.count(7), 60 * 99);
        });
        e.edge("42.4", "12: 1 a THUMB today, else 0", () -> {
            // LOT 100 of seed 7: 14 on day 0, 70 on day 1.
            MincedCases x = read("seed 7; thumb 15;");
            e.due("on day 0", x.count(12), 1);
            x.days(1);
            e.due("on day 1", x.count(12), 0);
        });
        e.edge("42.5", "15 STUFFS that are in the screw (bits)", () -> {
            for (int bits = 0; bits < 16; bits++) {
                MincedCases x = new MincedCases();
                for (int stuff = 0; stuff < 4; stuff++) {
                    if ((bits >> stuff & 1) != 0) {
                        x.bread(stuff, 1);
                    }
                }
                e.due("stuffs", x.count(15), bits);
            }
        });
    }

    private void countAtItsFullest() {
        e.edge("42.6", "8 bytes on the tape, 9 things that can be undone, 10 TOLD ones, 11 SLOTS that hold something", () -> {
            MincedCases x = read(SIX);
            for (int i = 0; i < 41; i++) {
                x.bread(0, 1);
            }
            for (int i = 0; i < 101; i++) {
                x.feed(0, 0, 0, 0, 0);
            }
            for (int i = 0; i < 21; i++) {
                x.tell(0, 0, 0, true);
            }
            for (int slot = 0; slot < 4; slot++) {
                x.hold(slot);
            }
            e.due("bytes", x.count(8), 2000);
            e.due("things", x.count(9), 40);
            e.due("told", x.count(10), 20);
            e.due("slots", x.count(11), 3);
        });
        e.edge("42.7", "13 what all CASES have, added, 14 who QUARRELS with anybody (bits)", () -> {
            e.due("all cases", read(SIX).count(13), 2 * 396);
            e.due("all quarrel", read(SIX).count(14), 63);
            e.due("nobody quarrels", read(SIX + "quarrels = 0;").count(14), 0);
            MincedCases x = read("person a 5 0 0 0; person b 1 0 0 0; person c 5 0 0 0; person d 9 0 0 0; quarrels = apart - 7;");
            e.due("b and d", x.count(14), 10);
            e.due("a and b", read("person a 1 0 0 0; person b 9 0 0 0; person c 5 0 0 0; quarrels = apart - 7;").count(14), 3);
            x.bread(0, 99);
            e.due("without the screw", x.count(13), 20);
        });
        e.edge("42.8", "15 STUFFS that are in the screw (bits), 16 SUITS that are due today (bits)", () -> {
            e.due("no suits", read(AB).count(16), 0);
            e.due("all eight", read(AB + "suit a b 1 0;".repeat(8)).count(16), 255);
            MincedCases x = read(AB + "suit a b 1 1;".repeat(7) + "suit a b 2 0;");
            e.due("the last alone", x.count(16), 128);
            x.days(1);
            e.due("all but the last", x.count(16), 127);
        });
    }

    private void manyCalls() {
        e.edge("0.1", "An object is used for at most 512 calls after it has been made", () -> {
            MincedCases x = new MincedCases();
            Checks.feed(x, "person a 1 0 0 0; person b 0 0 0 0;");
            // Two feeds, a back and the read are 4 calls; 507 more make 511.
            e.due("read", x.read(), 0);
            for (int i = 0; i < 507; i++) {
                x.bread(0, 99);
            }
            e.due("the 512th", x.put(0, 1), 1);
            MincedCases y = new MincedCases();
            for (int i = 0; i < 511; i++) {
                y.days(60);
            }
            e.due("the 512th", y.days(60), 512 * 60);
            // What later calls answer is free, but they answer.
            for (int i = 0; i < 1000; i++) {
                y.days(60);
                x.tell(0, 0, 0, true);
                x.put(0, 1);
            }
        });
    }
}
