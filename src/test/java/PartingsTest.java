import java.util.Random;

/** Promises 10 and 25 on worlds that are hard to tell apart, held against the model. */
public final class PartingsTest {
    private static final Check CHECK = new Check("PartingsTest");
    private static final int PAIRS = 3000;

    private final Random random;
    private final TwoWorlds x = new TwoWorlds();
    private final Model model = new Model();
    private final String run;

    private PartingsTest(int seed) {
        random = new Random(seed);
        run = "pair " + seed + " ";
    }

    public static void main(String[] args) {
        int[] ranks = new int[4];
        for (int seed = 0; seed < PAIRS; seed++) {
            int rank = new PartingsTest(seed).compare();
            ranks[rank < 0 ? 0 : rank]++;
        }
        for (int rank = 0; rank < 4; rank++) {
            CHECK.due("some pairs of rank " + rank, ranks[rank] >= 50 ? 1 : 0, 1);
        }
        CHECK.end();
    }

    private int compare() {
        int style = random.nextInt(6);
        make(0, style);
        make(1, style);
        if (random.nextInt(3) == 0) {
            copyWithFlaw();
        }
        CHECK.due(run + "rank", x.rank(0, 1), model.rank(0, 1));
        same(0, 1);
        same(1, 0);
        return model.rank(0, 1);
    }

    private void same(int w, int v) {
        int s = model.told(1);
        CHECK.due(run + "part " + w + " " + v, x.part(w, v), model.part(w, v));
        for (int what = 0; what < 3; what++) {
            CHECK.due(run + "sentence " + what, x.sentence(s, what), model.sentence(s, what));
        }
        for (int i = 0; i <= model.sentence(s, 2); i++) {
            CHECK.due(run + "written " + i, x.written(s, i), model.written(s, i));
        }
        for (int where = 0; where < 2; where++) {
            CHECK.due(run + "holds " + where, x.holds(s, where), model.holds(s, where));
            CHECK.due(run + "asked", x.asked(), model.asked());
        }
    }

    /** Ties one way, both ways, in a line, in a ring; few of them or many; loops and marks now and then. */
    private void make(int w, int style) {
        int n = 1 + random.nextInt(6);
        x.world(w, n);
        model.world(w, n);
        int thickness = random.nextInt(4);
        for (int i = 0; i < n; i++) {
            for (int j = 0; j < n; j++) {
                boolean by = random.nextInt(4) < thickness;
                boolean ring = (i + 1) % n == j || (j + 1) % n == i;
                if (style == 0 && by || style == 1 && by && i < j || style == 2 && ring || style == 3 && i < j) {
                    tie(w, i, j, true);
                }
                if ((style == 4 || style == 5) && by && i < j) {
                    tie(w, i, j, true);
                    tie(w, j, i, true);
                }
            }
            if (style == 5 && random.nextInt(3) == 0) {
                x.mark(w, i, i & 1, true);
                model.mark(w, i, i & 1, true);
            }
        }
    }

    private void copyWithFlaw() {
        int n = x.about(0, 0);
        int a = random.nextInt(n);
        int b = random.nextInt(n);
        x.turn(0, a, b, 1);
        model.turn(0, a, b, 1);
        int c = random.nextInt(n);
        tie(1, a, c, x.tied(1, a, c) == 0);
    }

    private void tie(int w, int a, int b, boolean is) {
        x.tie(w, a, b, is);
        model.tie(w, a, b, is);
    }
}
