import java.util.Arrays;
import java.util.List;
import java.util.function.Consumer;
import java.util.function.Supplier;

/**
 * What the tests of the document's edges share: objects to begin with, what can be seen of an object,
 * and the last numbers that are taken and the first that are refused.
 * Each object is used for fewer than 512 calls, as the document wants it.
 */
final class Edges {
    static final int UNKNOWN = -1, OUTSIDE = -2, STATE = -3, FULL = -4, SPENT = -6, NONE = -9;

    interface Call {
        int on(TwoWorlds x);
    }

    interface CallWith {
        int on(TwoWorlds x, int number);
    }

    /** What a call may change; each is looked at on an object of its own, for to look may change it. */
    enum View {
        WORLDS, PLAY, SENTENCES, TAPE, KINDS, COLOURS
    }

    private final Check check;

    Edges(String name) {
        check = new Check(name);
    }

    void due(String what, long got, long want) {
        check.due(what, got, want);
    }

    void due(String what, String got, String want) {
        check.due(what, got, want);
    }

    void end() {
        check.end();
    }

    /** A refused call: its answer is due, and nothing that can be seen is another than without it. */
    void refused(String what, Supplier<TwoWorlds> start, int want, Call call) {
        refusedBut(what, start, want, call, x -> { });
    }

    /** As refused, but that the object is then as it is after the change. */
    void refusedBut(String what, Supplier<TwoWorlds> start, int want, Call call, Consumer<TwoWorlds> change) {
        for (View view : View.values()) {
            TwoWorlds one = start.get();
            TwoWorlds other = start.get();
            due(what, call.on(one), want);
            change.accept(other);
            due(what + ": " + view + " as due", seen(view, one), seen(view, other));
        }
    }

    /** A call that is not refused changes these, if anything. */
    void changesAtMost(String what, Supplier<TwoWorlds> start, Call call, View... may) {
        for (View view : View.values()) {
            if (Arrays.asList(may).contains(view)) {
                continue;
            }
            TwoWorlds one = start.get();
            int answer = call.on(one);
            due(what + " is not refused, but " + answer, answer >= 0 || answer == NONE ? 1 : 0, 1);
            due(what + ": " + view + " as it was", seen(view, one), seen(view, start.get()));
        }
    }

    /** Each of low .. high is taken; what is beyond on either side, near and far, is refused and leaves no trace. */
    void range(String what, Supplier<TwoWorlds> start, int low, int high, int refusal, CallWith call) {
        for (int number = low; number <= high; number++) {
            int answer = call.on(start.get(), number);
            due(what + " " + number + " is taken, not answered " + answer, answer >= 0 || answer == NONE ? 1 : 0, 1);
        }
        beyond(what, start, low, high, refusal, call);
    }

    /** The first that are refused on each side, the last that there are, and those that look alike in fewer bits. */
    void beyond(String what, Supplier<TwoWorlds> start, int low, int high, int refusal, CallWith call) {
        int[] numbers = {
            low - 1, high + 1, low - 2, high + 2, Integer.MIN_VALUE, Integer.MAX_VALUE, Integer.MIN_VALUE + low,
            low + 32, low + 64, low + 256, low - 256, low + 65536, low - 65536, low + (1 << 24), ~high,
        };
        for (int number : numbers) {
            if (number < low || number > high) {
                refused(what + " " + number + " is refused", start, refusal, x -> call.on(x, number));
            }
        }
    }

    // ---- what can be seen of an object

    static String seen(View view, TwoWorlds x) {
        switch (view) {
            case WORLDS:
                return worlds(x);
            case PLAY:
                return play(x);
            case SENTENCES:
                return sentences(x);
            case TAPE:
                return tape(x);
            case KINDS:
                return kinds(x);
            default:
                return colours(x);
        }
    }

    private static String worlds(TwoWorlds x) {
        StringBuilder seen = new StringBuilder("worlds " + x.told(0));
        for (int w = 0; w < 6; w++) {
            int n = x.about(w, 0);
            seen.append("; ").append(n).append(' ').append(x.about(w, 1)).append(x.about(w, 2)).append(x.about(w, 3));
            for (int a = 0; a < n; a++) {
                seen.append(' ').append(x.about(w, 10 + a));
                for (int b = 0; b < n; b++) {
                    seen.append(x.tied(w, a, b));
                }
            }
        }
        return seen.toString();
    }

    /** The play as it is, and as it goes on to its end. */
    private static String play(TwoWorlds x) {
        StringBuilder seen = new StringBuilder();
        for (int turn = 0; turn < 8; turn++) {
            int best = x.best();
            seen.append(x.state()).append(' ').append(x.left()).append(' ').append(best).append("; ");
            if (x.state() == 1) {
                seen.append(best < 0 ? x.pick(1, 0) : x.pick(best / 10, best % 10)).append(' ');
            } else {
                seen.append(x.answer(Math.max(0, best))).append(' ');
            }
        }
        return seen.toString();
    }

    private static String sentences(TwoWorlds x) {
        int many = x.told(1);
        StringBuilder seen = new StringBuilder("sentences " + many + ", asked " + x.asked());
        for (int s = 0; s < 20; s++) {
            seen.append("; ").append(x.sentence(s, 0)).append(' ').append(x.sentence(s, 1)).append(' ');
            seen.append(Check.written(x, s)).append(' ').append(x.same(s, 0));
        }
        return seen.toString();
    }

    /** What was fed is seen only by reading it, or by where it is wrong. */
    private static String tape(TwoWorlds x) {
        StringBuilder seen = new StringBuilder("tape " + x.told(2));
        int s = x.read();
        return seen.append(", read ").append(s).append(' ').append(s < 0 ? "" : Check.written(x, s)).toString();
    }

    private static String kinds(TwoWorlds x) {
        StringBuilder seen = new StringBuilder("kinds " + x.told(3));
        for (int i = -1; i <= 12; i++) {
            seen.append(' ').append(x.kind(i));
        }
        return seen.toString();
    }

    private static String colours(TwoWorlds x) {
        StringBuilder seen = new StringBuilder("colours " + x.told(4) + ", still " + x.still(0) + " " + x.still(1));
        for (int i = -1; i <= 72; i++) {
            seen.append(' ').append(x.coloured(i));
        }
        return seen.toString();
    }

    // ---- objects to begin with

    /**
     * Worlds 0 (3 things), 2 (4 things) and 5 (1 thing), the others not there; three sentences; 6 bytes on the tape;
     * kinds of 7 things, colours of 25 pairs; a play of worlds 0 and 2 in its second round, the keeper to answer.
     */
    static TwoWorlds some() {
        TwoWorlds x = seekersTurn();
        x.pick(1, 2);
        return x;
    }

    /** As some, but that the seeker is to pick, in the second round. */
    static TwoWorlds seekersTurn() {
        TwoWorlds x = noPlay();
        x.play(0, 2, 3);
        x.pick(0, 1);
        x.answer(1);
        return x;
    }

    /** As some, but that the seeker has won the play, with a round left. */
    static TwoWorlds seekerHasWon() {
        TwoWorlds x = some();
        x.answer(1);
        return x;
    }

    /** As some, but without a play. */
    static TwoWorlds noPlay() {
        TwoWorlds x = new TwoWorlds();
        Check.line(x, 0, 3);
        Check.line(x, 2, 4);
        x.world(5, 1);
        x.mark(5, 0, 1, true);
        x.tie(5, 0, 0, true);
        for (String text : List.of("?aAa", "T|@b?cEcb", "-?a?b(-=ab&Eab)")) {
            Check.read(x, text);
        }
        x.holds(1, 0);
        x.kinds(0, 2, 1);
        x.colour(0, 2, 1);
        Check.put(x, "@c-B c");
        return x;
    }

    /** Six worlds of six things, 20 sentences, 800 bytes on the tape, a play that the keeper has won. */
    static TwoWorlds full() {
        TwoWorlds x = new TwoWorlds();
        for (int w = 0; w < 6; w++) {
            x.world(w, 6);
            x.mark(w, w, 0, true);
            x.mark(w, 5 - w, w & 1, true);
            x.tie(w, w, 5 - w, true);
        }
        for (int s = 0; s < 20; s++) {
            Check.read(x, s % 3 == 0 ? "T" : s % 3 == 1 ? "-F" : "@aAa");
        }
        x.holds(19, 3);
        x.kinds(0, 5, 2);
        x.colour(0, 5, 1);
        x.play(1, 2, 1);
        x.pick(0, 0);
        x.answer(0);
        for (int i = 0; i < 40; i++) {
            x.feed(0x20202020, 0x0A0A0A0A, 0x20202020, 0x20202020, i == 39 ? 0x20202046 : 0x20202020);
        }
        return x;
    }
}
