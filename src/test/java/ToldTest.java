/** Promises 36 to 39: what is told of two unknown, which two it was, whom to ask for which stuff. */
public final class ToldTest {
    private static final Checks CHECKS = new Checks();
    private static final int NONE = MincedCases.NONE;
    private static final int[] ODD = {-2, 6, 7, 1000, Integer.MIN_VALUE, Integer.MAX_VALUE};
    // Behind 0 and 1: 5 5 4; behind 0 and 2: 7 0 7; behind 1 and 2: 10 2 2.
    private static final String THREE = "person a 10 0 0 0; person b 0 0 0 0; person c 4 0 0 0;";

    public static void main(String[] args) {
        tell();
        forget();
        two();
        ask();
        whatIsToldGoesOn();
        CHECKS.end();
    }

    private static void due(String what, long got, long want) {
        CHECKS.due(what, got, want);
    }

    private static void tell() {
        MincedCases x = Checks.town(THREE);
        for (int odd : ODD) {
            due("no such person", x.tell(odd, 0, 1, true), NONE);
            due("no such stuff", x.tell(0, odd, 1, true), NONE);
        }
        due("no such person", x.tell(3, 0, 1, true), NONE);
        due("no such person", x.tell(-1, 0, 1, true), NONE);
        due("no such stuff", x.tell(0, 4, 1, false), NONE);
        due("no such stuff", x.tell(0, -1, 1, false), NONE);
        due("no such v", x.tell(0, 0, -1, true), NONE);
        due("no such v", x.tell(0, 0, 1000, true), NONE);
        due("no such v", x.tell(0, 0, Integer.MIN_VALUE, true), NONE);
        due("none told", x.count(10), 0);
        for (int i = 0; i < 20; i++) {
            due("tell", x.tell(i % 3, i % 4, i == 0 ? 0 : i == 1 ? 999 : i, i % 2 == 0), i);
            due("told", x.count(10), i + 1);
        }
        due("20 are there", x.tell(0, 0, 1, true), NONE);
        due("told", x.count(10), 20);
        due("of nobody", new MincedCases().tell(0, 0, 0, true), NONE);
    }

    private static void forget() {
        MincedCases x = Checks.town(THREE);
        due("forget nothing", x.forget(), 0);
        x.tell(0, 0, 1, true);
        x.tell(0, 0, 999, true);
        due("forget", x.forget(), 2);
        due("told", x.count(10), 0);
        due("forget", x.forget(), 0);
        due("no such k any more", x.two(1, NONE), NONE);
        due("from 0 on", x.tell(1, 0, 1, true), 0);
    }

    private static void pairs(MincedCases x, int k, int... want) {
        due("two(" + k + ", -1)", x.two(k, NONE), want.length);
        for (int i = 0; i < want.length; i++) {
            due("two(" + k + ", " + i + ")", x.two(k, i), want[i]);
        }
        due("not so many", x.two(k, want.length), NONE);
        due("not so many", x.two(k, Integer.MAX_VALUE), NONE);
        due("i below NONE", x.two(k, -2), NONE);
        due("i below NONE", x.two(k, Integer.MIN_VALUE), NONE);
    }

    private static void two() {
        MincedCases x = Checks.town(THREE);
        pairs(x, 0, 1, 2, 12);
        x.tell(0, 0, 7, true);
        pairs(x, 0, 1, 2, 12);
        pairs(x, 1, 2, 12);
        x.tell(2, 0, 3, false);
        pairs(x, 1, 2, 12);
        pairs(x, 2, 12);
        x.tell(0, 3, 1, true);
        pairs(x, 3);
        pairs(x, 2, 12);
        for (int odd : ODD) {
            due("no such k", x.two(odd, NONE), NONE);
            due("no such k", x.two(odd, 0), NONE);
        }
        due("no such k", x.two(4, NONE), NONE);
        due("no such k", x.two(-1, NONE), NONE);
        // Of one who is not put through it is what they have.
        MincedCases y = Checks.town(THREE);
        y.tell(0, 0, 10, true);
        pairs(y, 1, 12);
        y.forget();
        y.tell(2, 0, 4, true);
        y.tell(2, 0, 5, false);
        pairs(y, 1, 1, 2);
        pairs(y, 2, 1);
        y.forget();
        y.tell(0, 0, 0, true);
        pairs(y, 1, 1, 2, 12);
        y.tell(1, 1, 0, false);
        pairs(y, 2);
        MincedCases six = Checks.town("person a 1 0 0 0; person b 1 0 0 0; person c 1 0 0 0; person d 1 0 0 0; person e 1 0 0 0;"
            + "person f 1 0 0 0;");
        pairs(six, 0, 1, 2, 3, 4, 5, 12, 13, 14, 15, 23, 24, 25, 34, 35, 45);
        pairs(new MincedCases(), 0);
        pairs(Checks.town("person a 1 0 0 0;"), 0);
        // What would come out is as the laws tell it.
        MincedCases z = Checks.town(THREE + "stays = if 5 < apart then all else 0;");
        z.tell(0, 0, 1, true);
        pairs(z, 1, 12);
    }

    private static void ask() {
        MincedCases x = Checks.town(THREE);
        due("ask(0, 5)", x.ask(0, 5), 10);
        due("ask(0, 7)", x.ask(0, 7), 0);
        due("ask(0, 0)", x.ask(0, 0), 0);
        due("ask(0, 999)", x.ask(0, 999), 0);
        due("ask(0, 3)", x.ask(0, 3), 10);
        x.tell(0, 0, 7, true);
        due("ask(1, 8)", x.ask(1, 8), 0);
        due("ask(1, 2)", x.ask(1, 2), 10);
        due("ask(1, 5)", x.ask(1, 5), 20);
        x.tell(2, 0, 3, false);
        due("one is left", x.ask(2, 5), 0);
        x.tell(2, 0, 3, true);
        due("none is left", x.ask(3, 5), -2);
        due("by the first 2", x.ask(2, 5), 0);
        due("nobody", new MincedCases().ask(0, 5), -2);
        due("one alone", Checks.town("person a 1 0 0 0;").ask(0, 5), -2);
        // By the stuff: of stuff 2 alone more than one thing can be so.
        MincedCases y = Checks.town("person a 0 0 9 0; person b 0 0 0 0; person c 0 0 4 0;");
        due("stuff 2", y.ask(0, 7), 12 - 10);
        due("stuff 2 of the second", y.ask(0, 4), 12);
        for (int odd : ODD) {
            due("no such k", x.ask(odd, 5), NONE);
        }
        due("no such k", x.ask(-1, 5), NONE);
        due("no such k", x.ask(4, 5), NONE);
        for (int v : new int[] {-1, 1000, Integer.MAX_VALUE, Integer.MIN_VALUE}) {
            due("no such v", x.ask(0, v), NONE);
            due("no such v, none left", x.ask(3, v), NONE);
        }
        due("no such k of nobody", new MincedCases().ask(1, 5), NONE);
    }

    private static void whatIsToldGoesOn() {
        MincedCases x = Checks.town(THREE);
        x.tell(0, 0, 7, true);
        pairs(x, 1, 2, 12);
        // The two are put through now, whatever now is: 5 5 4, then 5 5 4, 4 5 4, 5 4 4.
        x.hold(0);
        x.put(0, 1);
        pairs(x, 1);
        x.bread(0, 6);
        pairs(x, 1, 1, 2);
        x.undo();
        x.undo();
        due("not undone", x.count(10), 1);
        pairs(x, 1, 2, 12);
        x.put(0, 1);
        x.restore(0);
        due("not restored", x.count(10), 1);
        pairs(x, 1, 2, 12);
        Checks.feed(x, "#");
        x.read();
        due("not gone by a fault", x.count(10), 1);
        Checks.feed(x, THREE);
        x.read();
        due("gone by a text", x.count(10), 0);
    }
}
