/** The boundary cases of what is told, and of promises 36 to 39. */
final class ToldEdges {
    private static final int NONE = MincedCases.NONE;
    private static final int NOT_SO = -2;
    private static final int MIN = Integer.MIN_VALUE;
    private static final int MAX = Integer.MAX_VALUE;
    private static final int[] NOBODY = {-2, -1, 3, 6, 7, MIN, MAX};
    private static final int[] NO_STUFF = {-2, -1, 4, 5, MIN, MAX};
    private static final int[] NO_AMOUNT = {-2, -1, 1000, 1001, MIN, MAX};
    // Behind 0 and 1: 5 5 4; behind 0 and 2: 7 0 7; behind 1 and 2: 10 2 2.
    private static final String THREE = "person a 10 0 0 0; person b 0 0 0 0; person c 4 0 0 0;";
    private static final String SIX = "person a 1 0 0 0; person b 1 0 0 0; person c 1 0 0 0; person d 1 0 0 0; person e 1 0 0 0;"
        + "person f 1 0 0 0;";

    private final Edges e;

    private ToldEdges(Edges edges) {
        e = edges;
    }

    static void lookAt(Edges edges) {
        ToldEdges t = new ToldEdges(edges);
        t.told();
        t.tell();
        t.forget();
        t.two();
        t.twoRefused();
        t.ask();
    }

    private void pairs(String what, MincedCases x, int k, int... want) {
        e.due(what + ": two(" + k + ", -1)", x.two(k, NONE), want.length);
        for (int i = 0; i < want.length; i++) {
            e.due(what + ": two(" + k + ", " + i + ")", x.two(k, i), want[i]);
        }
        e.due(what + ": not so many", x.two(k, want.length), NONE);
    }

    private void told() {
        e.edge("IV.1", "a PERSON has v (0 .. 999) or more of a STUFF then, or has not", () -> {
            MincedCases x = Checks.town(THREE);
            x.tell(0, 0, 7, true);
            pairs("just 7 are 7 or more", x, 1, 2, 12);
            x.forget();
            x.tell(0, 0, 8, true);
            pairs("7 are not 8", x, 1, 12);
            x.forget();
            x.tell(0, 0, 7, false);
            pairs("has not 7", x, 1, 1);
            x.forget();
            x.tell(0, 0, 8, false);
            pairs("has not 8", x, 1, 1, 2);
            x.forget();
            x.tell(0, 3, 0, true);
            pairs("0 are always there", x, 1, 1, 2, 12);
            x.tell(0, 3, 0, false);
            pairs("never fewer than 0", x, 2);
            x.forget();
            x.tell(0, 0, 999, false);
            pairs("not 999", x, 1, 1, 2, 12);
        });
        e.edge("IV.2", "v (0 .. 999)", () -> {
            MincedCases x = Checks.town("person a 0 0 0 0; person b 0 0 0 0;");
            for (int i = 0; i < 20; i++) {
                x.bread(1, 99);
            }
            x.bread(1, 17);
            x.tell(0, 1, 999, true);
            pairs("998 are not 999", x, 1);
            x.bread(1, 1);
            pairs("999 are", x, 1, 1);
        });
        e.edge("IV.3", "20 at most, numbered from 0 on", () -> {
            MincedCases x = Checks.town(THREE);
            for (int i = 0; i < 20; i++) {
                e.due("tell", x.tell(i % 3, i % 4, i, i % 2 == 0), i);
            }
            e.due("a 21st", x.tell(0, 0, 0, true), NONE);
            e.due("told", x.count(10), 20);
        });
        e.edge("IV.4", "KNOWN by k: the first k.", () -> {
            MincedCases x = Checks.town(THREE);
            for (int i = 0; i < 19; i++) {
                x.tell(0, 0, 0, true);
            }
            x.tell(0, 0, 8, true);
            pairs("the first 0", x, 0, 1, 2, 12);
            pairs("the first 19", x, 19, 1, 2, 12);
            pairs("all 20", x, 20, 12);
        });
    }

    private void tell() {
        e.edge("36.1", "It is TOLD: its number", () -> {
            MincedCases x = Checks.town(THREE);
            e.due("the first", x.tell(2, 3, 999, false), 0);
            e.due("the second", x.tell(0, 0, 0, true), 1);
            e.due("the same once more", x.tell(0, 0, 0, true), 2);
        });
        e.edge("36.2", "NONE, and nothing happens: 20 are there", () -> {
            MincedCases x = Checks.town(THREE);
            for (int i = 0; i < 20; i++) {
                x.tell(0, 0, 7, true);
            }
            int[] ahead = Edges.all(x);
            e.due("a 21st", x.tell(0, 0, 999, true), NONE);
            e.same("20 are there", Edges.all(x), ahead);
            pairs("the 20", x, 20, 2, 12);
            x.forget();
            e.due("there is room again", x.tell(0, 0, 999, true), 0);
        });
        e.edge("36.3", "NONE, and nothing happens: 20 are there, no such ones.", () -> {
            MincedCases x = Checks.town(THREE);
            x.tell(0, 0, 7, true);
            int[] ahead = Edges.all(x);
            for (int bad : NOBODY) {
                e.due("person " + bad, x.tell(bad, 0, 1, true), NONE);
            }
            for (int bad : NO_STUFF) {
                e.due("stuff " + bad, x.tell(0, bad, 1, true), NONE);
            }
            for (int bad : NO_AMOUNT) {
                e.due("v " + bad, x.tell(0, 0, bad, false), NONE);
            }
            e.same("no such ones", Edges.all(x), ahead);
            e.due("of nobody", new MincedCases().tell(0, 0, 0, true), NONE);
        });
    }

    private void forget() {
        e.edge("37.1", "All that was TOLD is forgotten: how many there were.", () -> {
            MincedCases x = Checks.town(THREE);
            e.due("nothing", x.forget(), 0);
            x.tell(0, 0, 1, true);
            e.due("one", x.forget(), 1);
            e.due("nothing more", x.forget(), 0);
            for (int i = 0; i < 21; i++) {
                x.tell(0, 0, 1, true);
            }
            e.due("twenty", x.forget(), 20);
            e.due("told", x.count(10), 0);
            e.due("no such k", x.two(1, NONE), NONE);
            e.due("from 0 on", x.tell(0, 0, 1, true), 0);
        });
    }

    private void two() {
        e.edge("IV.5", "TWO: pairs, each the lesser first, of which all that is KNOWN is so: how many; the i-th by the lesser, then the other.", () -> {
            pairs("all of six", Checks.town(SIX), 0, 1, 2, 3, 4, 5, 12, 13, 14, 15, 23, 24, 25, 34, 35, 45);
            MincedCases x = Checks.town(THREE);
            x.tell(0, 0, 7, true);
            x.tell(1, 0, 2, true);
            x.tell(1, 0, 3, true);
            pairs("both are so", x, 2, 12);
            pairs("none is left", x, 3);
        });
        e.edge("38.1", "TWO, as KNOWN by k: how many (i NONE), else the i-th (10 * the lesser + the other)", () -> {
            pairs("nobody", new MincedCases(), 0);
            pairs("one alone", Checks.town("person a 1 0 0 0;"), 0);
            pairs("two", Checks.town("person a 1 0 0 0; person b 1 0 0 0;"), 0, 1);
        });
    }

    private void twoRefused() {
        e.edge("38.2", "NONE: no such k", () -> {
            MincedCases x = Checks.town(THREE);
            x.tell(0, 0, 0, true);
            for (int bad : new int[] {-2, -1, 2, 3, 20, 21, MIN, MAX}) {
                e.due("k " + bad, x.two(bad, NONE), NONE);
                e.due("k " + bad, x.two(bad, 0), NONE);
            }
            e.due("all that is told", x.two(1, NONE), 3);
            e.due("of nothing told", Checks.town(THREE).two(1, NONE), NONE);
        });
        e.edge("38.3", "NONE: no such k, not so many", () -> {
            MincedCases x = Checks.town(THREE);
            for (int i : new int[] {3, 4, 15, 31, 32, 33, 64, MAX}) {
                e.due("i " + i, x.two(0, i), NONE);
            }
            e.due("the 16th of 15", Checks.town(SIX).two(0, 15), NONE);
            e.due("the first of none", new MincedCases().two(0, 0), NONE);
        });
        e.edge("38.4", "not so many, i below NONE.", () -> {
            for (int i : new int[] {-2, -3, -32, MIN}) {
                e.due("i " + i, Checks.town(THREE).two(0, i), NONE);
            }
        });
    }

    private void ask() {
        e.edge("IV.6", "fewest pairs are left, at worst; of alike ones the first.", () -> {
            MincedCases x = Checks.town(THREE);
            e.due("all questions are alike", x.ask(0, 0), 0);
            e.due("all questions are alike", x.ask(0, 999), 0);
            // By 5: a has it always; b behind 0 and 1, c behind 0 and 2: one against two.
            e.due("the first of two alike", x.ask(0, 5), 10);
            e.due("of stuffs the first", Checks.town("person a 0 0 9 9; person b 0 0 0 0; person c 0 0 4 4;").ask(0, 7), 2);
            e.due("of all six", Checks.town(SIX).ask(0, 1), 0);
            e.due("the last", Checks.town("person a 0 0 0 5; person b 0 0 0 5; person c 0 0 0 1;").ask(0, 3), 23);
            // a has 11 behind four of six pairs, d behind one, of all else nobody: 4 are left at worst, not 5 or 6.
            x.tell(0, 0, 7, true);
            // 0 and 2 or 1 and 2 are left: a has 8 behind one of them, b 2, c 5.
            e.due("of those left", x.ask(1, 8), 0);
            e.due("of those left", x.ask(1, 2), 10);
            e.due("of those left", x.ask(1, 5), 20);
            MincedCases y = Checks.town("person a 20 0 0 0; person b 0 0 0 0; person c 0 0 0 0; person d 8 0 0 0;");
            e.due("at worst", y.ask(0, 11), 0);
        });
        e.edge("39.1", "-2: none is left", () -> {
            MincedCases x = Checks.town(THREE);
            x.tell(0, 0, 11, true);
            e.due("none is left", x.ask(1, 5), NOT_SO);
            e.due("but by none told", x.ask(0, 5), 10);
            e.due("nobody", new MincedCases().ask(0, 5), NOT_SO);
            e.due("one alone", Checks.town("person a 1 0 0 0;").ask(0, 5), NOT_SO);
            x.forget();
            x.tell(0, 0, 8, true);
            e.due("one is left", x.ask(1, 5), 0);
        });
        e.edge("39.2", "-2: none is left; NONE: no such ones.", () -> {
            MincedCases x = Checks.town(THREE);
            x.tell(0, 0, 11, true);
            for (int bad : new int[] {-2, -1, 2, 3, 20, 21, MIN, MAX}) {
                e.due("k " + bad, x.ask(bad, 5), NONE);
            }
            for (int bad : NO_AMOUNT) {
                e.due("v " + bad, x.ask(0, bad), NONE);
                e.due("v " + bad + ", none is left", x.ask(1, bad), NONE);
            }
            e.due("the least v", x.ask(0, 0), 0);
            e.due("the greatest v", x.ask(0, 999), 0);
            e.due("k of nobody", new MincedCases().ask(1, 5), NONE);
        });
    }
}
