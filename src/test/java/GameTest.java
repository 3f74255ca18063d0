/** Promises 9 to 16. */
public final class GameTest {
    private static final Check CHECK = new Check("GameTest");

    private static void due(String call, long got, long want) {
        CHECK.due(call, got, want);
    }

    public static void main(String[] args) {
        gameAndRank();
        marksAndLoops();
        lines();
        refusals();
        playToTheEnd();
        playThatIsLost();
        playKeepsItsWorlds();
        playsRefused();
        CHECK.end();
    }

    private static void gameAndRank() {
        TwoWorlds x = new TwoWorlds();
        x.world(0, 1);
        x.world(1, 2);
        x.world(2, 3);
        x.world(3, 4);
        due("9 k 0", x.game(0, 1, 0), 1);
        due("9 one thing or two, one round", x.game(0, 1, 1), 1);
        due("9 one thing or two, two rounds", x.game(0, 1, 2), 0);
        due("9 two things or three, two rounds", x.game(1, 2, 2), 1);
        due("9 two things or three, three rounds", x.game(1, 2, 3), 0);
        due("9 three things or four", x.game(2, 3, 3), 1);
        due("9 the same world", x.game(2, 2, 3), 1);
        due("10 two", x.rank(0, 1), 2);
        due("10 the other way", x.rank(1, 0), 2);
        due("10 three", x.rank(1, 2), 3);
        due("10 none", x.rank(2, 3), -9);
        due("10 the same world", x.rank(0, 0), -9);
    }

    private static void marksAndLoops() {
        TwoWorlds x = new TwoWorlds();
        x.world(0, 2);
        x.world(1, 2);
        x.mark(0, 0, 0, true);
        due("10 A", x.rank(0, 1), 1);
        x.mark(1, 1, 1, true);
        due("10 A or B", x.rank(0, 1), 1);
        x.mark(1, 1, 1, false);
        x.mark(1, 1, 0, true);
        due("10 A on one each", x.rank(0, 1), -9);
        x.tie(0, 0, 0, true);
        due("10 a loop", x.rank(0, 1), 1);
        x.tie(1, 1, 1, true);
        due("10 loops", x.rank(0, 1), -9);
        x.tie(0, 0, 1, true);
        x.tie(1, 0, 1, true);
        due("10 one way and the other", x.rank(0, 1), 2);
        x.tie(1, 0, 1, false);
        x.tie(1, 1, 0, true);
        due("10 the same way", x.rank(0, 1), -9);
        due("9 three rounds of these", x.game(0, 1, 3), 1);
    }

    /** Lines of n and m things are told apart in k rounds if one has fewer than 2^k - 1. */
    private static void lines() {
        for (int n = 1; n <= 6; n++) {
            for (int m = 1; m <= 6; m++) {
                TwoWorlds x = new TwoWorlds();
                Check.line(x, 0, n);
                Check.line(x, 1, m);
                for (int k = 0; k <= 3; k++) {
                    boolean keeper = n == m || Math.min(n, m) >= (1 << k) - 1;
                    due("9 lines " + n + " " + m + ", " + k, x.game(0, 1, k), keeper ? 1 : 0);
                }
            }
        }
        TwoWorlds x = new TwoWorlds();
        Check.rings(x, 0, 6);
        Check.rings(x, 1, 3, 3);
        due("10 a ring or two", x.rank(0, 1), 3);
        due("9 a ring or two", x.game(0, 1, 2), 1);
    }

    private static void refusals() {
        TwoWorlds x = new TwoWorlds();
        x.world(0, 1);
        due("9 v", x.game(0, 1, 1), -1);
        due("9 w", x.game(1, 0, 1), -1);
        due("9 w", x.game(6, 0, 1), -1);
        due("9 v", x.game(0, -1, 1), -1);
        due("9 k", x.game(0, 0, 4), -2);
        due("9 k", x.game(0, 0, -1), -2);
        due("9 UNKNOWN ahead of OUTSIDE", x.game(0, 1, 4), -1);
        due("10 v", x.rank(0, 1), -1);
        due("10 w", x.rank(1, 0), -1);
        due("10 w", x.rank(6, 0), -1);
    }

    private static void playToTheEnd() {
        TwoWorlds x = new TwoWorlds();
        x.world(0, 3);
        x.world(1, 4);
        due("11 play", x.play(0, 1, 3), 1);
        due("15 the seeker's turn", x.state(), 1);
        due("16 left", x.left(), 3);
        due("14 the seeker can't win", x.best(), -9);
        due("13 not the keeper's turn", x.answer(0), -3);
        due("12 side", x.pick(2, 0), -2);
        due("12 side", x.pick(-1, 0), -2);
        due("12 thing", x.pick(0, 3), -2);
        due("12 thing", x.pick(1, 4), -2);
        due("12 thing", x.pick(1, -1), -2);
        due("12 refused", x.state(), 1);
        due("12 pick", x.pick(1, 3), 1);
        due("15 the keeper's turn", x.state(), 2);
        due("16 this round too", x.left(), 3);
        due("12 not the seeker's turn", x.pick(0, 0), -3);
        due("12 STATE ahead of OUTSIDE", x.pick(2, 0), -3);
        due("14 the keeper's least", x.best(), 0);
        due("13 thing", x.answer(3), -2);
        due("13 thing", x.answer(-1), -2);
        due("13 refused", x.state(), 2);
        due("13 answer", x.answer(2), 1);
        due("16 left", x.left(), 2);
        due("12 pick", x.pick(0, 2), 1);
        due("14 the only one", x.best(), 3);
        due("13 answer", x.answer(3), 1);
        due("15 the seeker's turn", x.state(), 1);
        due("16 left", x.left(), 1);
        due("12 pick", x.pick(1, 0), 1);
        due("14 least", x.best(), 0);
        due("13 answer", x.answer(1), 1);
        due("15 the keeper has won", x.state(), 3);
        due("16 left", x.left(), 0);
        due("14 over", x.best(), -3);
        due("12 over", x.pick(0, 0), -3);
        due("13 over", x.answer(0), -3);
        due("13 STATE ahead of OUTSIDE", x.answer(9), -3);
    }

    private static void playThatIsLost() {
        TwoWorlds x = new TwoWorlds();
        x.world(0, 2);
        x.world(1, 3);
        due("11 play", x.play(0, 1, 3), 1);
        due("14 the first pick that wins", x.best(), 0);
        x.play(0, 1, 2);
        due("14 none in two rounds", x.best(), -9);
        x.mark(1, 2, 1, true);
        x.play(0, 1, 1);
        due("14 of the second world", x.best(), 12);
        due("12 pick", x.pick(1, 2), 1);
        due("14 the keeper is lost", x.best(), -9);
        due("13 answer", x.answer(1), 1);
        due("15 the seeker has won", x.state(), 4);
        due("16 left", x.left(), 0);
        due("14 over", x.best(), -3);
        x.play(0, 1, 3);
        x.pick(0, 0);
        due("14 least that holds", x.best(), -9);
        x.answer(2);
        due("15 lost early", x.state(), 4);
        due("16 left", x.left(), 2);
        due("12 over", x.pick(0, 0), -3);
        x.play(0, 1, 2);
        x.pick(1, 0);
        x.answer(1);
        due("15 goes on", x.state(), 1);
        x.pick(1, 0);
        due("14 the same thing again", x.best(), 1);
        x.answer(0);
        due("15 not the same thing", x.state(), 4);
    }

    private static void playKeepsItsWorlds() {
        TwoWorlds x = new TwoWorlds();
        x.world(0, 2);
        x.mark(0, 1, 0, true);
        x.world(1, 2);
        x.mark(1, 0, 0, true);
        x.play(0, 1, 2);
        x.world(0, 1);
        x.mark(1, 0, 0, false);
        x.mark(1, 1, 1, true);
        due("11 the thing is still there", x.pick(0, 1), 1);
        due("11 as it was marked", x.best(), 0);
        x.game(0, 1, 3);
        x.kinds(0, 1, 2);
        x.part(0, 1);
        due("13 answer", x.answer(0), 1);
        due("15 alike", x.state(), 1);
        due("11 refused", x.play(0, 5, 2), -1);
        due("11 refused: it goes on", x.left(), 1);
        due("12 pick", x.pick(1, 1), 1);
        due("14 reply", x.best(), 0);
        due("13 answer", x.answer(0), 1);
        due("15 won", x.state(), 3);
        due("11 a new one", x.play(0, 1, 1), 1);
        due("12 thing 1 is gone", x.pick(0, 1), -2);
    }

    private static void playsRefused() {
        TwoWorlds x = new TwoWorlds();
        due("11 no worlds", x.play(0, 0, 1), -1);
        x.world(0, 1);
        due("11 v", x.play(0, 1, 1), -1);
        due("11 k", x.play(0, 0, 4), -2);
        due("11 k", x.play(0, 0, -1), -2);
        due("11 UNKNOWN ahead of OUTSIDE", x.play(1, 0, 4), -1);
        due("15 no play", x.state(), 0);
        due("16 no play", x.left(), -3);
        due("12 STATE ahead of OUTSIDE", x.pick(7, 7), -3);
        due("11 no rounds", x.play(0, 0, 0), 1);
        due("15 the keeper has won", x.state(), 3);
        due("16 left", x.left(), 0);
        due("14 over", x.best(), -3);
        due("12 over", x.pick(0, 0), -3);
    }
}
