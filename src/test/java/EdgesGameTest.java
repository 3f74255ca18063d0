import java.util.List;
import java.util.function.Supplier;

/** The edges of promises 9 to 16, and of what "Terms" says of the game: the promise's number stands ahead of each. */
public final class EdgesGameTest {
    private static final Edges EDGES = new Edges("EdgesGameTest");
    private static final int UNKNOWN = Edges.UNKNOWN, OUTSIDE = Edges.OUTSIDE, STATE = Edges.STATE, NONE = Edges.NONE;
    private static final Supplier<TwoWorlds> NO_PLAY = Edges::noPlay;
    private static final Supplier<TwoWorlds> SEEKERS = Edges::seekersTurn;
    private static final Supplier<TwoWorlds> KEEPERS = Edges::some;
    private static final Supplier<TwoWorlds> LOST = Edges::seekerHasWon;
    private static final Supplier<TwoWorlds> WON = Edges::full;

    public static void main(String[] args) {
        states();
        gameTakesWorldsAndRounds();
        gameOfNoRounds();
        alikeInEachRespect();
        eitherWorldMayBePicked();
        rankTakesWorlds();
        rankOfEachDepth();
        playTakesWorldsAndRounds();
        playBeginsAnew();
        playIsOfTheWorldsAsTheyWere();
        pickTakesSidesAndThings();
        pickInEachState();
        answerTakesThings();
        answerInEachState();
        bestOfTheSeeker();
        bestOfTheKeeper();
        bestInEachState();
        stateAndLeftToTheEnd();
        EDGES.end();
    }

    /** Worlds 0 and 1, bare, of so many things. */
    private static TwoWorlds bare(int n, int m) {
        TwoWorlds x = new TwoWorlds();
        x.world(0, n);
        x.world(1, m);
        return x;
    }

    private static void states() {
        EDGES.due("15 state: no play", NO_PLAY.get().state(), 0);
        EDGES.due("15 state: the seeker's turn", SEEKERS.get().state(), 1);
        EDGES.due("15 state: the keeper's turn", KEEPERS.get().state(), 2);
        EDGES.due("15 state: the keeper has won", WON.get().state(), 3);
        EDGES.due("15 state: the seeker has won", LOST.get().state(), 4);
    }

    // ---- 9 game

    private static void gameTakesWorldsAndRounds() {
        EDGES.range("9 game: w", WON, 0, 5, UNKNOWN, (x, w) -> x.game(w, 0, 3));
        EDGES.range("9 game: v", WON, 0, 5, UNKNOWN, (x, v) -> x.game(0, v, 3));
        EDGES.range("9 game: k", KEEPERS, 0, 3, OUTSIDE, (x, k) -> x.game(0, 2, k));
        EDGES.range("9 game, one world: k", KEEPERS, 0, 3, OUTSIDE, (x, k) -> x.game(5, 5, k));
        for (int w : new int[] {1, 3, 4}) {
            EDGES.refused("9 game: no w " + w, KEEPERS, UNKNOWN, x -> x.game(w, 0, 0));
            EDGES.refused("9 game: no v " + w, KEEPERS, UNKNOWN, x -> x.game(0, w, 0));
            EDGES.refused("9 game: no w, then k", KEEPERS, UNKNOWN, x -> x.game(w, 0, 4));
            EDGES.refused("9 game: no v, then k", KEEPERS, UNKNOWN, x -> x.game(0, w, -1));
        }
        EDGES.changesAtMost("9 game", KEEPERS, x -> x.game(0, 5, 3));
        EDGES.changesAtMost("9 game", SEEKERS, x -> x.game(2, 0, 3));
    }

    /** From no things the rows are alike, whatever the worlds are. */
    private static void gameOfNoRounds() {
        TwoWorlds x = bare(1, 6);
        x.mark(0, 0, 0, true);
        x.tie(0, 0, 0, true);
        EDGES.due("9 game: no rounds, the keeper wins", x.game(0, 1, 0), 1);
        EDGES.due("9 game: one round, the seeker does", x.game(0, 1, 1), 0);
        EDGES.due("9 game: no rounds of one world", x.game(1, 1, 0), 1);
        EDGES.due("9 game: three rounds of one world", x.game(1, 1, 3), 1);
    }

    /** Worlds that differ in one respect alone, and the rounds that it takes to see it. */
    private static void alikeInEachRespect() {
        TwoWorlds marked = bare(1, 1);
        marked.mark(0, 0, 0, true);
        EDGES.due("9 alike: A in one", marked.rank(0, 1), 1);
        marked.mark(1, 0, 0, true);
        EDGES.due("9 alike: A in both", marked.rank(0, 1), NONE);
        marked.mark(1, 0, 1, true);
        EDGES.due("9 alike: B in one", marked.rank(0, 1), 1);
        marked.mark(0, 0, 1, true);
        EDGES.due("9 alike: B in both", marked.rank(0, 1), NONE);
        marked.tie(0, 0, 0, true);
        EDGES.due("9 alike: E of a thing and itself in one", marked.rank(0, 1), 1);
        marked.tie(1, 0, 0, true);
        EDGES.due("9 alike: E of a thing and itself in both", marked.rank(0, 1), NONE);
        TwoWorlds tied = bare(2, 2);
        tied.mark(0, 0, 0, true);
        tied.mark(1, 0, 0, true);
        tied.tie(0, 0, 1, true);
        EDGES.due("9 alike: E in one", tied.rank(0, 1), 2);
        tied.tie(1, 1, 0, true);
        EDGES.due("9 alike: E the other way", tied.rank(0, 1), 2);
        tied.tie(1, 0, 1, true);
        EDGES.due("9 alike: E both ways", tied.rank(0, 1), 2);
        tied.tie(0, 1, 0, true);
        EDGES.due("9 alike: E both ways in both", tied.rank(0, 1), NONE);
        EDGES.due("9 alike: one thing, or another one", bare(1, 2).rank(0, 1), 2);
        EDGES.due("9 alike: another one, or the same", bare(2, 1).rank(0, 1), 2);
    }

    private static void eitherWorldMayBePicked() {
        TwoWorlds x = bare(2, 2);
        x.mark(0, 0, 0, true);
        x.mark(1, 0, 0, true);
        x.mark(1, 1, 0, true);
        x.mark(0, 1, 0, true);
        EDGES.due("9 game: all of one mark", x.game(0, 1, 1), 1);
        x.mark(0, 1, 0, false);
        EDGES.due("9 game: a pick of the first alone wins", x.game(0, 1, 1), 0);
        EDGES.due("9 game: a pick of the second alone wins", x.game(1, 0, 1), 0);
    }

    // ---- 10 rank

    private static void rankTakesWorlds() {
        EDGES.range("10 rank: w", WON, 0, 5, UNKNOWN, (x, w) -> x.rank(w, 0));
        EDGES.range("10 rank: v", WON, 0, 5, UNKNOWN, (x, v) -> x.rank(5, v));
        for (int w : new int[] {1, 3, 4}) {
            EDGES.refused("10 rank: no w " + w, KEEPERS, UNKNOWN, x -> x.rank(w, 0));
            EDGES.refused("10 rank: no v " + w, KEEPERS, UNKNOWN, x -> x.rank(0, w));
        }
        EDGES.changesAtMost("10 rank", KEEPERS, x -> x.rank(0, 2));
    }

    private static void rankOfEachDepth() {
        EDGES.due("10 rank: none is below 1", bare(3, 3).rank(0, 1), NONE);
        EDGES.due("10 rank: 1 and 2 things", bare(1, 2).rank(0, 1), 2);
        EDGES.due("10 rank: 2 and 3 things", bare(2, 3).rank(0, 1), 3);
        EDGES.due("10 rank: 3 and 4 things, 4 rounds would do", bare(3, 4).rank(0, 1), NONE);
        EDGES.due("10 rank: 4 and 3 things, 4 rounds would do", bare(4, 3).rank(0, 1), NONE);
        EDGES.due("10 rank: of one world", bare(2, 6).rank(1, 1), NONE);
        TwoWorlds x = bare(5, 6);
        x.mark(1, 5, 1, true);
        EDGES.due("10 rank: a mark", x.rank(0, 1), 1);
        x.mark(0, 0, 1, true);
        EDGES.due("10 rank: 4 and 5 without it", x.rank(0, 1), NONE);
        for (int k = 0; k <= 3; k++) {
            EDGES.due("9 game: the keeper wins below the rank, " + k, bare(2, 3).game(0, 1, k), k < 3 ? 1 : 0);
        }
    }

    // ---- 11 play

    private static void playTakesWorldsAndRounds() {
        EDGES.range("11 play: w", WON, 0, 5, UNKNOWN, (x, w) -> x.play(w, 0, 3));
        EDGES.range("11 play: v", WON, 0, 5, UNKNOWN, (x, v) -> x.play(0, v, 3));
        EDGES.range("11 play: k", KEEPERS, 0, 3, OUTSIDE, (x, k) -> x.play(0, 2, k));
        EDGES.range("11 play, none yet: k", NO_PLAY, 0, 3, OUTSIDE, (x, k) -> x.play(5, 5, k));
        EDGES.range("11 play, one is lost: k", LOST, 0, 3, OUTSIDE, (x, k) -> x.play(0, 2, k));
        for (int w : new int[] {1, 3, 4}) {
            EDGES.refused("11 play: no w " + w, KEEPERS, UNKNOWN, x -> x.play(w, 0, 1));
            EDGES.refused("11 play: no v " + w, SEEKERS, UNKNOWN, x -> x.play(0, w, 1));
            EDGES.refused("11 play: no w, then k", SEEKERS, UNKNOWN, x -> x.play(w, 0, 4));
            EDGES.refused("11 play: no v, then k", NO_PLAY, UNKNOWN, x -> x.play(0, w, -1));
        }
        EDGES.changesAtMost("11 play", KEEPERS, x -> x.play(0, 2, 3), Edges.View.PLAY);
        EDGES.changesAtMost("11 play of no rounds", KEEPERS, x -> x.play(0, 2, 0), Edges.View.PLAY);
    }

    private static void playBeginsAnew() {
        for (Supplier<TwoWorlds> start : List.of(NO_PLAY, SEEKERS, KEEPERS, LOST)) {
            for (int k = 0; k <= 3; k++) {
                TwoWorlds x = start.get();
                TwoWorlds y = NO_PLAY.get();
                String what = "11 play of " + k + ", from state " + x.state();
                EDGES.due(what, x.play(2, 0, k), 1);
                y.play(2, 0, k);
                EDGES.due(what + ": state", x.state(), k == 0 ? 3 : 1);
                EDGES.due(what + ": left", x.left(), k);
                EDGES.due(what + ": nothing of the one before", Edges.seen(Edges.View.PLAY, x),
                        Edges.seen(Edges.View.PLAY, y));
            }
        }
    }

    private static void playIsOfTheWorldsAsTheyWere() {
        TwoWorlds x = KEEPERS.get();
        x.world(0, 1);
        x.world(2, 6);
        x.tie(2, 0, 0, true);
        EDGES.due("11 play: whatever becomes of the worlds", Edges.seen(Edges.View.PLAY, x),
                Edges.seen(Edges.View.PLAY, KEEPERS.get()));
        TwoWorlds y = bare(2, 2);
        y.play(0, 0, 2);
        y.mark(0, 0, 0, true);
        y.tie(0, 0, 1, true);
        y.pick(0, 0);
        y.answer(1);
        y.pick(1, 0);
        EDGES.due("11 play: one world is both, and neither changes", y.best(), 1);
        y.world(0, 1);
        EDGES.due("11 play: a thing that is gone is still picked", y.answer(1), 1);
        EDGES.due("11 play: and is alike", y.state(), 3);
    }

    // ---- 12 pick

    private static void pickTakesSidesAndThings() {
        EDGES.range("12 pick: side", SEEKERS, 0, 1, OUTSIDE, (x, side) -> x.pick(side, 0));
        EDGES.range("12 pick: thing of the first", SEEKERS, 0, 2, OUTSIDE, (x, thing) -> x.pick(0, thing));
        EDGES.range("12 pick: thing of the second", SEEKERS, 0, 3, OUTSIDE, (x, thing) -> x.pick(1, thing));
        EDGES.refused("12 pick: side and thing", SEEKERS, OUTSIDE, x -> x.pick(2, 4));
        Supplier<TwoWorlds> oneAndSix = () -> {
            TwoWorlds x = bare(1, 6);
            x.play(0, 1, 1);
            return x;
        };
        EDGES.range("12 pick: thing of one", oneAndSix, 0, 0, OUTSIDE, (x, thing) -> x.pick(0, thing));
        EDGES.range("12 pick: thing of six", oneAndSix, 0, 5, OUTSIDE, (x, thing) -> x.pick(1, thing));
        EDGES.changesAtMost("12 pick", SEEKERS, x -> x.pick(1, 3), Edges.View.PLAY);
        EDGES.due("12 pick: a thing that was picked", SEEKERS.get().pick(0, 1), 1);
    }

    private static void pickInEachState() {
        EDGES.refused("12 pick: no play", NO_PLAY, STATE, x -> x.pick(0, 0));
        EDGES.refused("12 pick: the keeper's turn", KEEPERS, STATE, x -> x.pick(0, 0));
        EDGES.refused("12 pick: the seeker has won", LOST, STATE, x -> x.pick(0, 0));
        EDGES.refused("12 pick: the keeper has won", WON, STATE, x -> x.pick(0, 0));
        EDGES.refused("12 pick: no play, then side", NO_PLAY, STATE, x -> x.pick(2, 0));
        EDGES.refused("12 pick: the keeper's turn, then side", KEEPERS, STATE, x -> x.pick(-1, 0));
        EDGES.refused("12 pick: the keeper's turn, then thing", KEEPERS, STATE, x -> x.pick(0, 3));
        EDGES.refused("12 pick: the seeker has won, then side", LOST, STATE, x -> x.pick(2, 0));
        EDGES.refused("12 pick: the keeper has won, then thing", WON, STATE, x -> x.pick(0, 6));
    }

    // ---- 13 answer

    private static void answerTakesThings() {
        EDGES.range("13 answer: thing of the first", KEEPERS, 0, 2, OUTSIDE, TwoWorlds::answer);
        Supplier<TwoWorlds> second = () -> {
            TwoWorlds x = SEEKERS.get();
            x.pick(0, 2);
            return x;
        };
        EDGES.range("13 answer: thing of the second", second, 0, 3, OUTSIDE, TwoWorlds::answer);
        Supplier<TwoWorlds> one = () -> {
            TwoWorlds x = bare(1, 6);
            x.play(0, 1, 2);
            x.pick(1, 5);
            return x;
        };
        EDGES.range("13 answer: thing of one", one, 0, 0, OUTSIDE, TwoWorlds::answer);
        Supplier<TwoWorlds> six = () -> {
            TwoWorlds x = bare(1, 6);
            x.play(0, 1, 2);
            x.pick(0, 0);
            return x;
        };
        EDGES.range("13 answer: thing of six", six, 0, 5, OUTSIDE, TwoWorlds::answer);
        EDGES.changesAtMost("13 answer", KEEPERS, x -> x.answer(2), Edges.View.PLAY);
        EDGES.changesAtMost("13 answer that loses", KEEPERS, x -> x.answer(0), Edges.View.PLAY);
    }

    private static void answerInEachState() {
        EDGES.refused("13 answer: no play", NO_PLAY, STATE, x -> x.answer(0));
        EDGES.refused("13 answer: the seeker's turn", SEEKERS, STATE, x -> x.answer(0));
        EDGES.refused("13 answer: the seeker has won", LOST, STATE, x -> x.answer(0));
        EDGES.refused("13 answer: the keeper has won", WON, STATE, x -> x.answer(0));
        EDGES.refused("13 answer: no play, then thing", NO_PLAY, STATE, x -> x.answer(-1));
        EDGES.refused("13 answer: the seeker's turn, then thing", SEEKERS, STATE, x -> x.answer(4));
        EDGES.refused("13 answer: it is over, then thing", LOST, STATE, x -> x.answer(6));
    }

    // ---- 14 best

    private static void bestOfTheSeeker() {
        TwoWorlds x = bare(6, 6);
        x.play(0, 1, 3);
        EDGES.due("14 best: the seeker has none", x.best(), NONE);
        x.mark(0, 5, 0, true);
        x.play(0, 1, 1);
        EDGES.due("14 best: the last thing of the first", x.best(), 5);
        x.play(1, 0, 1);
        EDGES.due("14 best: the last thing of the second", x.best(), 15);
        x.play(1, 0, 2);
        EDGES.due("14 best: with a round to spare, any thing wins", x.best(), 0);
        x.mark(1, 0, 1, true);
        x.play(0, 1, 1);
        EDGES.due("14 best: the first world ahead of the second", x.best(), 5);
        x.mark(0, 3, 0, true);
        x.play(0, 1, 1);
        EDGES.due("14 best: rising", x.best(), 3);
        x.play(1, 0, 1);
        EDGES.due("14 best: the first thing of the first", x.best(), 0);
        TwoWorlds y = bare(2, 3);
        y.play(0, 1, 2);
        EDGES.due("14 best: none in the rounds that are left", y.best(), NONE);
        y.play(0, 1, 3);
        EDGES.due("14 best: in three it wins", y.best(), 0);
        y.pick(0, 0);
        y.answer(0);
        EDGES.due("14 best: in two it still wins, by another thing", y.best(), 1);
        y.pick(0, 1);
        y.answer(2);
        EDGES.due("14 best: in one it wins, in the second", y.best(), 11);
        TwoWorlds z = bare(1, 2);
        z.tie(1, 1, 1, true);
        z.play(0, 1, 1);
        EDGES.due("14 best: in the second alone", z.best(), 11);
    }

    private static void bestOfTheKeeper() {
        TwoWorlds x = bare(6, 6);
        x.mark(0, 2, 1, true);
        x.mark(1, 5, 1, true);
        x.play(0, 1, 3);
        x.pick(0, 2);
        EDGES.due("14 best: the last thing of the second", x.best(), 5);
        x.play(0, 1, 3);
        x.pick(1, 5);
        EDGES.due("14 best: a thing of the first", x.best(), 2);
        x.play(0, 1, 3);
        x.pick(1, 4);
        EDGES.due("14 best: the least", x.best(), 0);
        x.mark(1, 5, 1, false);
        x.play(0, 1, 1);
        x.pick(0, 2);
        EDGES.due("14 best: the keeper has none", x.best(), NONE);
        TwoWorlds y = new TwoWorlds();
        Check.line(y, 0, 4);
        Check.line(y, 1, 5);
        y.play(0, 1, 2);
        y.pick(0, 1);
        EDGES.due("14 best: not the least that is alike, but with which it wins", y.best(), 1);
        y.play(0, 1, 1);
        y.pick(0, 1);
        EDGES.due("14 best: in the last round, the least that is alike", y.best(), 0);
        TwoWorlds lines = new TwoWorlds();
        Check.line(lines, 0, 3);
        Check.line(lines, 1, 4);
        lines.play(0, 1, 3);
        lines.pick(1, 1);
        EDGES.due("14 best: with all it loses in the rounds that are left", lines.best(), NONE);
    }

    private static void bestInEachState() {
        EDGES.refused("14 best: no play", NO_PLAY, STATE, TwoWorlds::best);
        EDGES.refused("14 best: the seeker has won", LOST, STATE, TwoWorlds::best);
        EDGES.refused("14 best: the keeper has won", WON, STATE, TwoWorlds::best);
        EDGES.changesAtMost("14 best of the seeker", SEEKERS, TwoWorlds::best);
        EDGES.changesAtMost("14 best of the keeper", KEEPERS, TwoWorlds::best);
    }

    // ---- 15 state, 16 left

    private static void stateAndLeftToTheEnd() {
        EDGES.due("15 state: no play", NO_PLAY.get().state(), 0);
        EDGES.refused("16 left: no play", NO_PLAY, STATE, TwoWorlds::left);
        for (int k = 1; k <= 3; k++) {
            TwoWorlds x = bare(3, 3);
            x.play(0, 1, k);
            for (int round = 0; round < k; round++) {
                EDGES.due("15 state: the seeker's turn", x.state(), 1);
                EDGES.due("16 left: ahead of a round", x.left(), k - round);
                x.pick(round & 1, round);
                EDGES.due("15 state: the keeper's turn", x.state(), 2);
                EDGES.due("16 left: of one that is begun, it too", x.left(), k - round);
                x.answer(round);
            }
            EDGES.due("15 state: over, the keeper has won", x.state(), 3);
            EDGES.due("16 left: none", x.left(), 0);
        }
        for (int lost = 1; lost <= 3; lost++) {
            TwoWorlds x = bare(3, 3);
            x.mark(1, 2, 0, true);
            x.play(0, 1, 3);
            for (int round = 1; round <= lost; round++) {
                x.pick(0, round % 2);
                x.answer(round == lost ? 2 : round % 2);
            }
            EDGES.due("15 state: the seeker has won in round " + lost, x.state(), 4);
            EDGES.due("16 left: as many as were left", x.left(), 3 - lost);
        }
        EDGES.changesAtMost("15 state", KEEPERS, TwoWorlds::state);
        EDGES.changesAtMost("16 left", KEEPERS, TwoWorlds::left);
        EDGES.changesAtMost("16 left", LOST, TwoWorlds::left);
    }
}
