import java.lang.management.ManagementFactory;
import java.util.Random;

/** All calls of a run live in one room: nothing is made but by the constructor, and no call throws, whatever it is given. */
public final class RoomTest {
    private static final Checks CHECKS = new Checks();
    private static final int CALLS = 512;
    private static final String FULL = "person a 40 3 7 0; person b 2 30 1 9; person c 11 0 0 50; person d 9 9 9 9; person e 1 2 3 4;"
        + "person f 99 0 99 0; suit a b 2 1; suit b c 3 0; suit c d 1 0; suit d e 1 0; suit e f 1 0; suit f a 1 0; suit a c 1 0;"
        + "suit b d 1 0; quarrels = if day < 0 then 1 else apart + turns; stays = (all + rest) / (7 + fine) - stuff;"
        + "dulls = 3; costs = apart / 10; thumb 55; seed 321;";

    public static void main(String[] args) {
        nothingIsMade();
        noCallThrows();
        CHECKS.end();
    }

    private static long made() {
        return ((com.sun.management.ThreadMXBean) ManagementFactory.getThreadMXBean()).getCurrentThreadAllocatedBytes();
    }

    private static void nothingIsMade() {
        MincedCases x = Checks.town(FULL);
        everyCall(x, 0, 1, 2, 3);
        long ahead = made();
        long mid = made();
        everyCall(x, 1, 2, 3, 4);
        everyCall(x, 5, 4, 0, 60);
        long behind = made();
        // The looking itself makes something, which is taken off.
        CHECKS.due("bytes made by calls", behind - mid - (mid - ahead), 0);
        long first = made();
        MincedCases y = new MincedCases();
        long made = made() - first;
        CHECKS.due("a new object is small: " + made, made < 40000 && y.count(0) == 0, true);
    }

    private static int everyCall(MincedCases x, int a, int b, int c, int d) {
        int sum = x.feed(a, b, c, d, a) + x.back(a) + x.place() + x.person(a, b) + x.screw(a) + x.suit(a, b) + x.tells(a, b, c)
            + x.put(a, b) + (x.bread(a, b) ? 1 : 0) + (x.plate(a) ? 1 : 0) + x.wash() + x.days(d) + (x.undo() ? 1 : 0);
        sum += x.calm(-1) + x.calm(a) + x.rich(a, b, d, c) + x.alike(a, b, c) + x.best(a) + x.gain(a, b, c) + x.plates(a, b, c)
            + x.crumbs(a, b, c, d) + x.poorest(a) + x.foes(a) + x.peace(a) + x.paired(a) + x.most(a, b) + x.likest(a) + x.fair(a);
        sum += x.ends() + x.bill(d) + x.then(a, b, d) + x.foesIn(a, d) + x.turnsIn(d) + x.year(a, b, d, c) + x.tell(a, b, c, d > 3)
            + x.two(a, b) + x.ask(a, b) + (x.hold(a) ? 1 : 0) + (x.restore(b) ? 1 : 0) + x.count(a);
        return sum + x.forget() * (a == 3 ? 1 : 0) + (a == 7 ? x.read() : 0);
    }

    private static int any(Random random) {
        switch (random.nextInt(5)) {
            case 0: return random.nextInt();
            case 1: return new int[] {Integer.MIN_VALUE, Integer.MAX_VALUE, -1, 61, 100, 1000, 999}[random.nextInt(7)];
            default: return random.nextInt(9) - 1;
        }
    }

    private static void noCallThrows() {
        Random random = new Random(11);
        for (int run = 0; run < 40; run++) {
            MincedCases x = run % 4 == 0 ? new MincedCases() : Checks.town(FULL);
            for (int call = 0; call < CALLS / 40; call++) {
                String what = "calls of run " + run;
                try {
                    everyCall(x, any(random), any(random), any(random), any(random));
                    CHECKS.due(what, 0, 0);
                } catch (RuntimeException thrown) {
                    CHECKS.due(what + " threw " + thrown, 1, 0);
                }
            }
        }
    }
}
