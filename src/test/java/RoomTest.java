import java.lang.management.ManagementFactory;

/** All calls of a run live in one room: a new object is small, and only a kept sentence takes more. */
public final class RoomTest {
    private static final Check CHECK = new Check("RoomTest");
    private static final com.sun.management.ThreadMXBean THREADS =
            (com.sun.management.ThreadMXBean) ManagementFactory.getThreadMXBean();

    public static void main(String[] args) {
        for (int i = 0; i < 3; i++) {
            dearCalls(made());
        }
        long before = taken();
        TwoWorlds x = made();
        long forNew = taken() - before;
        CHECK.due("a new object takes " + forNew + " bytes, at most 20000", forNew <= 20000 ? 1 : 0, 1);
        before = taken();
        long checks = dearCalls(x);
        nearlyNone("calls that keep nothing", taken() - before);
        CHECK.due("they were made", checks > 0 ? 1 : 0, 1);
        sentences(x);
        CHECK.end();
    }

    private static long taken() {
        return THREADS.getCurrentThreadAllocatedBytes();
    }

    /** The measuring itself takes a little. */
    private static void nearlyNone(String what, long bytes) {
        CHECK.due(what + " took " + bytes + " bytes, at most 400", bytes <= 400 ? 1 : 0, 1);
    }

    private static TwoWorlds made() {
        return new TwoWorlds();
    }

    private static long dearCalls(TwoWorlds x) {
        long sum = 0;
        for (int i = 0; i < 40; i++) {
            sum += x.world(0, 6) + x.world(1, 6) + x.world(2, 2);
            for (int a = 0; a < 6; a++) {
                sum += x.mark(0, a, a & 1, true) + x.tie(0, a, (a + i) % 6, true) + x.tie(1, a, (a + 1) % 6, true);
            }
            sum += x.turn(0, 1, 2, 3) + x.join(2, 2, 4) + x.about(0, 3) + x.tied(0, 0, 1);
            sum += x.game(0, 1, 3) + x.game(0, 3, 3) + x.rank(0, 3) + x.rank(0, 1) + x.play(0, 3, 3) + x.best();
            sum += x.pick(0, 0) + x.best() + x.answer(0) + x.state() + x.left();
            sum += x.feed(-1, -1, -1, -1, -1) + x.trim(7) + x.read() + x.asked() + x.told(0);
            sum += x.kinds(0, 1, 2) + x.kinds(0, 3, 2) + x.kind(3) + x.part(1, 1);
            sum += x.colour(0, 1, 0) + x.colour(0, 1, 1) + x.coloured(5) + x.still(0) + x.still(1);
            sum += x.holds(0, 0) + x.same(0, 0) + x.sentence(0, 0) + x.written(0, 0);
        }
        return Math.abs(sum) + 1;
    }

    private static void sentences(TwoWorlds x) {
        Check.put(x, ("-".repeat(11) + "T&").repeat(45) + "T");
        long before = taken();
        CHECK.due("a long text", x.read(), 0);
        long forOne = taken() - before;
        CHECK.due("a long sentence takes " + forOne + " bytes, at most 4000", forOne <= 4000 ? 1 : 0, 1);
        x.world(0, 6);
        before = taken();
        CHECK.due("holds", x.holds(0, 0), 0);
        nearlyNone("holds()", taken() - before);
    }
}
