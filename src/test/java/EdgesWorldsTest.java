import java.util.function.Supplier;

/** The edges of promises 1 to 8, and of what "Terms" says of worlds: the promise's number stands ahead of each. */
public final class EdgesWorldsTest {
    private static final Edges EDGES = new Edges("EdgesWorldsTest");
    private static final int UNKNOWN = Edges.UNKNOWN, OUTSIDE = Edges.OUTSIDE, STATE = Edges.STATE;
    private static final Supplier<TwoWorlds> NEW = TwoWorlds::new;
    private static final Supplier<TwoWorlds> SOME = Edges::some;
    private static final Supplier<TwoWorlds> ALL = Edges::full;
    private static final Supplier<TwoWorlds> NEW_WITH_ONE = () -> {
        TwoWorlds x = new TwoWorlds();
        x.world(0, 1);
        return x;
    };

    public static void main(String[] args) {
        nothingAtFirst();
        objectsShareNothing();
        useToTheLastCall();
        worldTakesPlacesAndSizes();
        worldIsBareInPlaceOfWhatWas();
        worldRefusesInOrder();
        markTakesWorldsThingsMarks();
        markRefusesInOrder();
        markTellsWhetherItWasSo();
        tieTakesWorldsAndThings();
        tieTellsWhetherItWasSo();
        turnTakesWorldsThingsPlaces();
        turnInEveryPlace();
        joinTakesWorldsAndPlaces();
        joinUpToSixThings();
        joinIntoOneOfTheTwo();
        aboutTakesWorldsAndNumbers();
        aboutCounts();
        tiedTakesWorldsAndThings();
        changesStayInTheWorld();
        EDGES.end();
    }

    // ---- 1 a new object

    private static void nothingAtFirst() {
        for (int w = 0; w < 6; w++) {
            int it = w;
            EDGES.refused("1 no world " + w + ": about", NEW, UNKNOWN, x -> x.about(it, 0));
            EDGES.refused("1 no world " + w + ": mark", NEW, UNKNOWN, x -> x.mark(it, 0, 0, true));
            EDGES.refused("1 no world " + w + ": tie", NEW, UNKNOWN, x -> x.tie(it, 0, 0, true));
            EDGES.refused("1 no world " + w + ": tied", NEW, UNKNOWN, x -> x.tied(it, 0, 0));
            EDGES.refused("1 no world " + w + ": turn", NEW, UNKNOWN, x -> x.turn(it, 0, 0, it));
            EDGES.refused("1 no world " + w + ": join", NEW, UNKNOWN, x -> x.join(it, it, it));
            EDGES.refused("1 no world " + w + ": game", NEW, UNKNOWN, x -> x.game(it, it, 0));
        }
        EDGES.refused("1 no sentences: sentence", NEW, UNKNOWN, x -> x.sentence(0, 0));
        EDGES.refused("1 no sentences: written", NEW, UNKNOWN, x -> x.written(0, 0));
        EDGES.refused("1 no sentences: same", NEW, UNKNOWN, x -> x.same(0, 0));
        EDGES.refused("1 no play: pick", NEW, STATE, x -> x.pick(0, 0));
        EDGES.refused("1 no play: answer", NEW, STATE, x -> x.answer(0));
        EDGES.refused("1 no play: best", NEW, STATE, TwoWorlds::best);
        EDGES.refused("1 no play: left", NEW, STATE, TwoWorlds::left);
        EDGES.refused("1 no kinds", NEW, UNKNOWN, x -> x.kind(0));
        EDGES.refused("1 no colours", NEW, UNKNOWN, x -> x.coloured(0));
        EDGES.refused("1 no colours: steps", NEW, STATE, x -> x.still(0));
        EDGES.refused("1 no colours: balance", NEW, STATE, x -> x.still(1));
        EDGES.due("1 no play: state", new TwoWorlds().state(), 0);
        EDGES.due("1 none were asked", new TwoWorlds().asked(), 0);
        EDGES.refused("1 an empty tape is wrong at its end", NEW, -20, TwoWorlds::read);
        for (int what = 0; what <= 4; what++) {
            EDGES.due("1 told " + what, new TwoWorlds().told(what), 0);
        }
    }

    private static void objectsShareNothing() {
        TwoWorlds first = Edges.some();
        TwoWorlds second = new TwoWorlds();
        for (Edges.View view : Edges.View.values()) {
            EDGES.due("1 " + view + " of a new object, beside another one",
                    Edges.seen(view, second), Edges.seen(view, new TwoWorlds()));
        }
        EDGES.due("1 the other one has what it had", first.told(0) * 100 + first.told(1) * 10 + first.told(2), 336);
    }

    /** An object is used for at most 512 calls, and answers all of them. */
    private static void useToTheLastCall() {
        TwoWorlds x = new TwoWorlds();
        x.world(0, 6);
        for (int call = 2; call <= 512; call++) {
            EDGES.due("1 call " + call, x.tie(0, 5, 5, call % 2 == 0), 1);
        }
    }

    // ---- 2 world

    private static void worldTakesPlacesAndSizes() {
        EDGES.range("2 world: w", NEW, 0, 5, UNKNOWN, (x, w) -> x.world(w, 3));
        EDGES.range("2 world, all there: w", ALL, 0, 5, UNKNOWN, (x, w) -> x.world(w, 1));
        EDGES.range("2 world: n", NEW, 1, 6, OUTSIDE, (x, n) -> x.world(0, n));
        EDGES.range("2 world, one is there: n", SOME, 1, 6, OUTSIDE, (x, n) -> x.world(2, n));
        for (int n = 1; n <= 6; n++) {
            TwoWorlds x = new TwoWorlds();
            EDGES.due("2 world: answers n", x.world(3, n), n);
            EDGES.due("2 world: so many things", x.about(3, 0), n);
            EDGES.due("2 world: the last thing is there", x.about(3, 9 + n), 0);
            EDGES.due("2 world: no thing behind it", x.tied(3, n, 0), UNKNOWN);
            EDGES.due("2 world: one is there", x.told(0), 1);
        }
    }

    private static void worldIsBareInPlaceOfWhatWas() {
        for (int n = 1; n <= 6; n++) {
            TwoWorlds x = allTied(6);
            x.world(0, n);
            EDGES.due("2 world: bare, A", x.about(0, 1), 0);
            EDGES.due("2 world: bare, B", x.about(0, 2), 0);
            EDGES.due("2 world: bare, E", x.about(0, 3), 0);
            x.world(0, 6);
            EDGES.due("2 world: bare again, A, B, E", x.about(0, 1) + x.about(0, 2) + x.about(0, 3), 0);
            EDGES.due("2 world: in its place, not beside it", x.told(0), 1);
        }
    }

    private static void worldRefusesInOrder() {
        EDGES.refused("2 world: UNKNOWN, then OUTSIDE", SOME, UNKNOWN, x -> x.world(6, 7));
        EDGES.refused("2 world: UNKNOWN, then OUTSIDE", SOME, UNKNOWN, x -> x.world(-1, 0));
    }

    /** One world of n things, each marked A and B, E for all pairs. */
    private static TwoWorlds allTied(int n) {
        TwoWorlds x = new TwoWorlds();
        x.world(0, n);
        for (int a = 0; a < n; a++) {
            x.mark(0, a, 0, true);
            x.mark(0, a, 1, true);
            for (int b = 0; b < n; b++) {
                x.tie(0, a, b, true);
            }
        }
        return x;
    }

    // ---- 3 mark

    private static void markTakesWorldsThingsMarks() {
        EDGES.range("3 mark: w", ALL, 0, 5, UNKNOWN, (x, w) -> x.mark(w, 0, 1, true));
        EDGES.range("3 mark, six things: thing", ALL, 0, 5, UNKNOWN, (x, thing) -> x.mark(1, thing, 0, true));
        EDGES.range("3 mark, one thing: thing", SOME, 0, 0, UNKNOWN, (x, thing) -> x.mark(5, thing, 0, true));
        EDGES.range("3 mark, no more: thing", SOME, 0, 2, UNKNOWN, (x, thing) -> x.mark(0, thing, 0, false));
        EDGES.range("3 mark: which", SOME, 0, 1, OUTSIDE, (x, which) -> x.mark(0, 0, which, true));
        EDGES.range("3 mark, no more: which", SOME, 0, 1, OUTSIDE, (x, which) -> x.mark(5, 0, which, false));
        for (int w : new int[] {1, 3, 4}) {
            EDGES.refused("3 mark: no world " + w, SOME, UNKNOWN, x -> x.mark(w, 0, 0, true));
        }
    }

    private static void markRefusesInOrder() {
        EDGES.refused("3 mark: no world, then which", SOME, UNKNOWN, x -> x.mark(1, 0, 2, true));
        EDGES.refused("3 mark: no place, then which", SOME, UNKNOWN, x -> x.mark(6, 0, -1, true));
        EDGES.refused("3 mark: no thing, then which", SOME, UNKNOWN, x -> x.mark(0, 3, 2, true));
        EDGES.refused("3 mark: it was so, but which", SOME, OUTSIDE, x -> x.mark(0, 0, 2, false));
    }

    private static void markTellsWhetherItWasSo() {
        for (int n = 1; n <= 6; n++) {
            for (int which = 0; which < 2; which++) {
                TwoWorlds x = new TwoWorlds();
                x.world(4, n);
                int last = n - 1;
                String what = "3 mark " + which + " of thing " + last;
                EDGES.due(what + ": not at first", x.mark(4, last, which, false), 0);
                EDGES.due(what, x.mark(4, last, which, true), 1);
                EDGES.due(what + ": it was so", x.mark(4, last, which, true), 0);
                EDGES.due(what + ": its marks", x.about(4, 10 + last), 1 + which);
                EDGES.due(what + ": the other mark is not", x.about(4, 2 - which), 0);
                EDGES.due(what + ": no more", x.mark(4, last, which, false), 1);
                EDGES.due(what + ": it was no more", x.mark(4, last, which, false), 0);
            }
        }
    }

    // ---- 4 tie

    private static void tieTakesWorldsAndThings() {
        EDGES.range("4 tie: w", ALL, 0, 5, UNKNOWN, (x, w) -> x.tie(w, 0, 1, true));
        EDGES.range("4 tie, six things: a", ALL, 0, 5, UNKNOWN, (x, a) -> x.tie(3, a, 5, true));
        EDGES.range("4 tie, six things: b", ALL, 0, 5, UNKNOWN, (x, b) -> x.tie(3, 5, b, true));
        EDGES.range("4 tie, three things: a", SOME, 0, 2, UNKNOWN, (x, a) -> x.tie(0, a, 0, false));
        EDGES.range("4 tie, three things: b", SOME, 0, 2, UNKNOWN, (x, b) -> x.tie(0, 0, b, false));
        EDGES.range("4 tie, one thing: both", SOME, 0, 0, UNKNOWN, (x, a) -> x.tie(5, a, a, false));
        for (int w : new int[] {1, 3, 4}) {
            EDGES.refused("4 tie: no world " + w, SOME, UNKNOWN, x -> x.tie(w, 0, 0, true));
        }
    }

    private static void tieTellsWhetherItWasSo() {
        for (int a = 0; a < 6; a++) {
            for (int b = 0; b < 6; b++) {
                TwoWorlds x = new TwoWorlds();
                x.world(1, 6);
                String what = "4 tie " + a + " " + b;
                EDGES.due(what + ": not at first", x.tie(1, a, b, false), 0);
                EDGES.due(what, x.tie(1, a, b, true), 1);
                EDGES.due(what + ": it was so", x.tie(1, a, b, true), 0);
                EDGES.due(what + ": tied", x.tied(1, a, b), 1);
                EDGES.due(what + ": for no other pair", x.about(1, 3), 1);
                EDGES.due(what + ": no more", x.tie(1, a, b, false), 1);
                EDGES.due(what + ": it was no more", x.tie(1, a, b, false), 0);
                EDGES.due(what + ": for no pair", x.about(1, 3), 0);
            }
        }
    }

    // ---- 5 turn

    private static void turnTakesWorldsThingsPlaces() {
        EDGES.range("5 turn: w", ALL, 0, 5, UNKNOWN, (x, w) -> x.turn(w, 0, 1, 0));
        EDGES.range("5 turn: v", NEW_WITH_ONE, 0, 5, UNKNOWN, (x, v) -> x.turn(0, 0, 0, v));
        EDGES.range("5 turn, all there: v", ALL, 0, 5, UNKNOWN, (x, v) -> x.turn(0, 0, 5, v));
        EDGES.range("5 turn, six things: a", ALL, 0, 5, UNKNOWN, (x, a) -> x.turn(2, a, 5, 3));
        EDGES.range("5 turn, six things: b", ALL, 0, 5, UNKNOWN, (x, b) -> x.turn(2, 0, b, 3));
        EDGES.range("5 turn, three things into four: a", SOME, 0, 2, UNKNOWN, (x, a) -> x.turn(0, a, 0, 2));
        EDGES.range("5 turn, three things into four: b", SOME, 0, 2, UNKNOWN, (x, b) -> x.turn(0, 0, b, 2));
        EDGES.range("5 turn, one thing: both", SOME, 0, 0, UNKNOWN, (x, a) -> x.turn(5, a, a, 0));
        for (int w : new int[] {1, 3, 4}) {
            EDGES.refused("5 turn: no world " + w, SOME, UNKNOWN, x -> x.turn(w, 0, 0, 0));
        }
        EDGES.refused("5 turn: no world, though v is there", SOME, UNKNOWN, x -> x.turn(1, 0, 0, 2));
    }

    /** Each a and b of a world in which no two things look alike, into its own place and into another one. */
    private static void turnInEveryPlace() {
        for (int v = 0; v <= 5; v += 5) {
            for (int a = 0; a < 4; a++) {
                for (int b = 0; b < 4; b++) {
                    TwoWorlds x = uneven();
                    TwoWorlds as = uneven();
                    x.world(5, 6);
                    x.tie(5, 5, 5, true);
                    EDGES.due("5 turn", x.turn(0, a, b, v), 1);
                    EDGES.due("5 turn: as many things", x.about(v, 0), 4);
                    EDGES.due("5 turn: as many pairs", x.about(v, 3), as.about(0, 3));
                    for (int i = 0; i < 4; i++) {
                        int from = i == a ? b : i == b ? a : i;
                        String what = "5 turn " + a + " " + b + ", thing " + i;
                        EDGES.due(what + ": marks", x.about(v, 10 + i), as.about(0, 10 + from));
                        for (int j = 0; j < 4; j++) {
                            int to = j == a ? b : j == b ? a : j;
                            EDGES.due(what + " and " + j, x.tied(v, i, j), as.tied(0, from, to));
                        }
                    }
                    EDGES.due("5 turn: nothing behind the things", x.tied(v, 4, 4), UNKNOWN);
                }
            }
        }
    }

    private static TwoWorlds uneven() {
        TwoWorlds x = new TwoWorlds();
        x.world(0, 4);
        for (int a = 0; a < 4; a++) {
            x.mark(0, a, 0, (a & 1) != 0);
            x.mark(0, a, 1, (a & 2) != 0);
            for (int b = 0; b < 4; b++) {
                x.tie(0, a, b, a < b || a == b && a == 1 || a == 3 && b == 0);
            }
        }
        return x;
    }

    // ---- 6 join

    private static void joinTakesWorldsAndPlaces() {
        Supplier<TwoWorlds> small = () -> {
            TwoWorlds x = new TwoWorlds();
            for (int w = 0; w < 6; w++) {
                x.world(w, 1 + w % 3);
            }
            return x;
        };
        EDGES.range("6 join: w", small, 0, 5, UNKNOWN, (x, w) -> x.join(w, 0, 1));
        EDGES.range("6 join: v", small, 0, 5, UNKNOWN, (x, v) -> x.join(0, v, 1));
        EDGES.range("6 join: x", small, 0, 5, UNKNOWN, (x, to) -> x.join(2, 5, to));
        EDGES.range("6 join: x is not there yet", NEW_WITH_ONE, 0, 5, UNKNOWN, (x, to) -> x.join(0, 0, to));
        for (int w : new int[] {1, 3, 4}) {
            EDGES.refused("6 join: no w " + w, SOME, UNKNOWN, x -> x.join(w, 5, 0));
            EDGES.refused("6 join: no v " + w, SOME, UNKNOWN, x -> x.join(5, w, 0));
        }
        EDGES.refused("6 join: no x, then more than 6", SOME, UNKNOWN, x -> x.join(0, 2, 6));
        EDGES.refused("6 join: no x, then more than 6", ALL, UNKNOWN, x -> x.join(0, 1, -1));
        EDGES.refused("6 join: no v, then more than 6", SOME, UNKNOWN, x -> x.join(2, 4, 6));
    }

    private static void joinUpToSixThings() {
        for (int n = 1; n <= 6; n++) {
            for (int m = 1; m <= 6; m++) {
                int one = n;
                int two = m;
                Supplier<TwoWorlds> start = () -> {
                    TwoWorlds x = new TwoWorlds();
                    x.world(0, one);
                    x.world(1, two);
                    x.world(2, 2);
                    x.mark(0, one - 1, 0, true);
                    x.mark(1, two - 1, 1, true);
                    x.tie(0, 0, one - 1, true);
                    x.tie(1, two - 1, 0, true);
                    x.tie(2, 0, 1, true);
                    return x;
                };
                String what = "6 join of " + n + " and " + m;
                if (n + m > 6) {
                    EDGES.refused(what, start, OUTSIDE, x -> x.join(0, 1, 2));
                    EDGES.refused(what + ", into none", start, OUTSIDE, x -> x.join(0, 1, 5));
                    EDGES.refused(what + ", into its own", start, OUTSIDE, x -> x.join(0, 1, 0));
                    continue;
                }
                TwoWorlds x = start.get();
                EDGES.due(what, x.join(0, 1, 2), n + m);
                EDGES.due(what + ": things", x.about(2, 0), n + m);
                EDGES.due(what + ": A", x.about(2, 10 + n - 1), 1);
                EDGES.due(what + ": B", x.about(2, 10 + n + m - 1), 2);
                EDGES.due(what + ": A, B, E", x.about(2, 1) * 100 + x.about(2, 2) * 10 + x.about(2, 3), 112);
                EDGES.due(what + ": E of the first", x.tied(2, 0, n - 1), 1);
                EDGES.due(what + ": E of the second", x.tied(2, n + m - 1, n), 1);
                EDGES.due(what + ": as many worlds", x.told(0), 3);
            }
        }
    }

    private static void joinIntoOneOfTheTwo() {
        for (int w = 0; w < 2; w++) {
            for (int v = 0; v < 2; v++) {
                for (int to = 0; to < 2; to++) {
                    TwoWorlds x = fourAndTwo();
                    TwoWorlds apart = fourAndTwo();
                    String what = "6 join of " + w + " and " + v + " into " + to;
                    EDGES.due(what, x.join(w, v, to), apart.join(w, v, 5));
                    if (w + v > 0) {
                        sameWorld(what, x, to, apart, 5);
                    }
                    sameWorld(what + ": the other one", x, 1 - to, apart, 1 - to);
                }
            }
        }
    }

    private static TwoWorlds fourAndTwo() {
        TwoWorlds x = uneven();
        x.world(1, 2);
        x.tie(1, 1, 0, true);
        x.mark(1, 0, 1, true);
        return x;
    }

    private static void sameWorld(String what, TwoWorlds x, int w, TwoWorlds y, int v) {
        int n = y.about(v, 0);
        EDGES.due(what + ": things", x.about(w, 0), n);
        for (int a = 0; a < n; a++) {
            EDGES.due(what + ": marks of " + a, x.about(w, 10 + a), y.about(v, 10 + a));
            for (int b = 0; b < n; b++) {
                EDGES.due(what + ": E " + a + " " + b, x.tied(w, a, b), y.tied(v, a, b));
            }
        }
    }

    // ---- 7 about

    private static void aboutTakesWorldsAndNumbers() {
        EDGES.range("7 about: w", ALL, 0, 5, UNKNOWN, (x, w) -> x.about(w, 0));
        EDGES.range("7 about: w, a thing", ALL, 0, 5, UNKNOWN, (x, w) -> x.about(w, 15));
        for (int w : new int[] {1, 3, 4}) {
            EDGES.refused("7 about: no world " + w, SOME, UNKNOWN, x -> x.about(w, 3));
            EDGES.refused("7 about: no world, then what", SOME, UNKNOWN, x -> x.about(w, 4));
        }
        EDGES.refused("7 about: no place, then what", SOME, UNKNOWN, x -> x.about(6, -1));
        for (int what = 0; what <= 3; what++) {
            EDGES.due("7 about: " + what + " is taken", Edges.some().about(5, what) >= 0 ? 1 : 0, 1);
        }
        for (int what : new int[] {-1, 4, 5, 6, 7, 8, 9, Integer.MIN_VALUE, Integer.MAX_VALUE, 256, 65536, 42, -10}) {
            EDGES.refused("7 about: what " + what, ALL, OUTSIDE, x -> x.about(0, what));
        }
        for (int n = 1; n <= 6; n++) {
            int many = n;
            Supplier<TwoWorlds> start = () -> {
                TwoWorlds x = new TwoWorlds();
                x.world(0, many);
                return x;
            };
            EDGES.range("7 about: 10 and a thing of " + n, start, 10, 9 + n, OUTSIDE, (x, what) -> x.about(0, what));
        }
    }

    private static void aboutCounts() {
        for (int n = 1; n <= 6; n++) {
            TwoWorlds x = new TwoWorlds();
            x.world(0, n);
            EDGES.due("7 about: none of A, B, E", x.about(0, 1) + x.about(0, 2) + x.about(0, 3), 0);
            TwoWorlds y = allTied(n);
            EDGES.due("7 about: all are A", y.about(0, 1), n);
            EDGES.due("7 about: all are B", y.about(0, 2), n);
            EDGES.due("7 about: E for all pairs", y.about(0, 3), n * n);
            EDGES.due("7 about: both marks", y.about(0, 9 + n), 3);
            y.mark(0, n - 1, 0, false);
            EDGES.due("7 about: B alone", y.about(0, 9 + n), 2);
            y.mark(0, n - 1, 1, false);
            EDGES.due("7 about: no mark", y.about(0, 9 + n), 0);
            y.mark(0, n - 1, 0, true);
            EDGES.due("7 about: A alone", y.about(0, 9 + n), 1);
            EDGES.due("7 about: A of all, B of all but one", y.about(0, 1) * 10 + y.about(0, 2), 11 * n - 1);
        }
    }

    // ---- 8 tied

    private static void tiedTakesWorldsAndThings() {
        EDGES.range("8 tied: w", ALL, 0, 5, UNKNOWN, (x, w) -> x.tied(w, 0, 0));
        EDGES.range("8 tied, six things: a", ALL, 0, 5, UNKNOWN, (x, a) -> x.tied(0, a, 5));
        EDGES.range("8 tied, six things: b", ALL, 0, 5, UNKNOWN, (x, b) -> x.tied(0, 0, b));
        EDGES.range("8 tied, three things: a", SOME, 0, 2, UNKNOWN, (x, a) -> x.tied(0, a, 0));
        EDGES.range("8 tied, three things: b", SOME, 0, 2, UNKNOWN, (x, b) -> x.tied(0, 2, b));
        EDGES.range("8 tied, one thing: both", SOME, 0, 0, UNKNOWN, (x, a) -> x.tied(5, a, a));
        for (int w : new int[] {1, 3, 4}) {
            EDGES.refused("8 tied: no world " + w, SOME, UNKNOWN, x -> x.tied(w, 0, 0));
        }
        EDGES.due("8 tied: E from 0 to 1", Edges.some().tied(0, 0, 1), 1);
        EDGES.due("8 tied: not from 1 to 0", Edges.some().tied(0, 1, 0), 0);
        EDGES.due("8 tied: a thing and itself", Edges.some().tied(5, 0, 0), 1);
        EDGES.due("8 tied: not a thing and itself", Edges.some().tied(0, 0, 0), 0);
    }

    // ---- what a call may change

    private static void changesStayInTheWorld() {
        EDGES.changesAtMost("2 world", SOME, x -> x.world(0, 6), Edges.View.WORLDS);
        EDGES.changesAtMost("3 mark", SOME, x -> x.mark(2, 1, 0, true), Edges.View.WORLDS);
        EDGES.changesAtMost("4 tie", SOME, x -> x.tie(2, 1, 2, false), Edges.View.WORLDS);
        EDGES.changesAtMost("5 turn", SOME, x -> x.turn(2, 1, 2, 0), Edges.View.WORLDS);
        EDGES.changesAtMost("6 join", SOME, x -> x.join(0, 0, 2), Edges.View.WORLDS);
        EDGES.changesAtMost("7 about", SOME, x -> x.about(2, 13));
        EDGES.changesAtMost("8 tied", SOME, x -> x.tied(2, 3, 3));
        TwoWorlds x = Edges.full();
        x.world(0, 2);
        x.mark(0, 0, 1, true);
        x.turn(0, 0, 1, 1);
        x.join(0, 1, 2);
        TwoWorlds y = Edges.full();
        for (int w = 3; w < 6; w++) {
            sameWorld("2 to 6: no other world, " + w, x, w, y, w);
        }
    }
}
