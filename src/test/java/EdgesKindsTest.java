import java.util.function.Supplier;

/** The edges of promises 25 to 31 (partings, kinds, colours), and of what "Terms" says of these: the number stands ahead. */
public final class EdgesKindsTest {
    private static final Edges EDGES = new Edges("EdgesKindsTest");
    private static final int UNKNOWN = Edges.UNKNOWN, OUTSIDE = Edges.OUTSIDE, STATE = Edges.STATE, FULL = Edges.FULL;
    private static final int NONE = Edges.NONE;
    private static final Supplier<TwoWorlds> NEW = TwoWorlds::new;
    private static final Supplier<TwoWorlds> SOME = Edges::some;
    private static final Supplier<TwoWorlds> ALL = Edges::full;

    public static void main(String[] args) {
        partTakesWorlds();
        partUpToThreeRounds();
        partUpToTwentySentences();
        partRefusesInOrder();
        partByTheFirstAtom();
        partByTheFirstPick();
        partLikeOnesOnce();
        kindsTakesWorldsAndRounds();
        kindsByRounds();
        kindTakesThings();
        kindsAreOfTheLatest();
        colourTakesWorldsAndBy();
        coloursByCounting();
        coloursByTwo();
        colouredTakesThingsOrPairs();
        stillTakesNumbers();
        balance();
        toldTakesNumbers();
        toldFromNoneToAll();
        EDGES.end();
    }

    /** A world from a text: how many things, then marks (A0, B1) and pairs (E01). */
    private static void make(TwoWorlds x, int w, String text) {
        String[] words = text.split(" ");
        x.world(w, Integer.parseInt(words[0]));
        for (int i = 1; i < words.length; i++) {
            int thing = words[i].charAt(1) - '0';
            if (words[i].charAt(0) == 'E') {
                x.tie(w, thing, words[i].charAt(2) - '0', true);
            } else {
                x.mark(w, thing, words[i].charAt(0) - 'A', true);
            }
        }
    }

    private static TwoWorlds two(String first, String second) {
        TwoWorlds x = new TwoWorlds();
        make(x, 0, first);
        make(x, 1, second);
        return x;
    }

    // ---- 25 part

    private static void partTakesWorlds() {
        Supplier<TwoWorlds> six = () -> {
            TwoWorlds x = new TwoWorlds();
            for (int w = 0; w < 6; w++) {
                x.world(w, 1 + w);
            }
            return x;
        };
        EDGES.range("25 part: w", six, 0, 5, UNKNOWN, (x, w) -> x.part(w, 0));
        EDGES.range("25 part: v", six, 0, 5, UNKNOWN, (x, v) -> x.part(0, v));
        for (int w : new int[] {1, 3, 4}) {
            EDGES.refused("25 part: no w " + w, SOME, UNKNOWN, x -> x.part(w, 0));
            EDGES.refused("25 part: no v " + w, SOME, UNKNOWN, x -> x.part(0, w));
        }
        EDGES.changesAtMost("25 part", SOME, x -> x.part(0, 2), Edges.View.SENTENCES, Edges.View.TAPE);
        TwoWorlds x = Edges.some();
        x.part(0, 2);
        EDGES.due("25 part: the tape has what it had", x.told(2), 6);
        int s = x.read();
        EDGES.due("25 part: the tape has what it had", Check.written(x, s), "@a-Ba");
        EDGES.due("25 part: none were ASKED", x.asked(), Edges.some().asked());
    }

    private static void parts(String why, String first, String second, String want) {
        TwoWorlds x = two(first, second);
        String what = "25 part: " + why + ", " + first + " / " + second;
        EDGES.due(what, x.part(0, 1), 0);
        EDGES.due(what, Check.written(x, 0), want);
        EDGES.due(what + ": depth", x.sentence(0, 0), x.rank(0, 1));
        EDGES.due(what + ": it holds in the first", x.holds(0, 0), 1);
        EDGES.due(what + ": and not in the second", x.holds(0, 1), 0);
        EDGES.due(what + ": like one that is read", Check.read(x, want), 1);
        EDGES.due(what + ": nodes of one that is read", x.sentence(1, 1), x.sentence(0, 1));
        EDGES.due(what + ": same as one that is read", x.same(0, 1), 1);
    }

    private static void partUpToThreeRounds() {
        parts("one round", "1 A0", "1", "?aAa");
        parts("two rounds", "1", "2", "?a-?b-=ab");
        parts("two rounds", "2", "1", "?a?b-=ab");
        parts("three rounds", "2", "3", "?a(?b(-=ab&-?c(-=ac&-=bc))&?b(-?c(-=ac&-=bc)&-=ab))");
        refusedPart("four rounds would do", "3", "4");
        refusedPart("four rounds would do", "4", "3");
        refusedPart("no rounds would do", "2 A0", "2 A1");
        Supplier<TwoWorlds> one = () -> two("6 E01 A3", "1");
        EDGES.refused("25 part: of one world", one, NONE, x -> x.part(0, 0));
    }

    private static void refusedPart(String why, String first, String second) {
        EDGES.refused("25 part: " + why, () -> two(first, second), NONE, x -> x.part(0, 1));
    }

    private static void partUpToTwentySentences() {
        TwoWorlds x = two("1", "2");
        for (int s = 0; s < 20; s++) {
            EDGES.due("25 part: numbered as they come", x.part(s % 2, 1 - s % 2), s);
        }
        EDGES.due("25 part: the last", Check.written(x, 19), "?a?b-=ab");
        EDGES.due("25 part: 20 ever", x.part(0, 1), FULL);
        EDGES.refused("25 part: 20 sentences", ALL, FULL, y -> y.part(0, 1));
    }

    private static void partRefusesInOrder() {
        EDGES.refused("25 part: no world, then 20 sentences", ALL, UNKNOWN, x -> x.part(6, 0));
        EDGES.refused("25 part: no world, then 20 sentences", ALL, UNKNOWN, x -> x.part(0, -1));
        EDGES.refused("25 part: NONE, then 20 sentences", ALL, NONE, x -> x.part(3, 3));
        Supplier<TwoWorlds> fullButWorlds = () -> {
            TwoWorlds x = Edges.full();
            x.world(0, 3);
            x.world(1, 4);
            return x;
        };
        EDGES.refused("25 part: NONE of two worlds, then 20 sentences", fullButWorlds, NONE, x -> x.part(0, 1));
    }

    /** Each atom ahead of the next one, in worlds in which it matters; = 1 3 and = 2 3 never part the same rows. */
    private static void partByTheFirstAtom() {
        parts("A 1 ahead of B 1", "1 A0", "1 B0", "?aAa");
        parts("B 1 ahead of E 1 1", "1 B0", "2 E00", "?aBa");
        parts("E 1 1", "1 E00", "1", "?aEaa");
        parts("= 1 2 ahead of A 2", "2 A0 E01", "2 A0", "?a(?b(-=ab&Eab)&Aa)");
        parts("A 2 ahead of B 2", "4 A0 B2 A3", "3 A0 B2", "?a(?b(-=ab&Ab)&Aa)");
        parts("B 2 ahead of E 1 2", "3 B0 E12", "2 B0", "?a(-Ba&?b(-Bb&-=ab))");
        parts("E 1 2 ahead of E 2 1", "4", "4 E01 E10 E23 E32", "?a-?b(-=ab&Eab)");
        parts("E 2 1 ahead of E 2 2", "3 E11 E21 E22", "2 E11", "?a(Eaa&?b(Eba&-=ab))");
        parts("= 2 3 ahead of A 3", "4 A1 E01 E31", "3 A1 E01",
                "?a(?b(-=ab&?c(-=ac&-=bc&Ecb)&Ab)&-Aa&?b(Ab&Eab&-=ab))");
        parts("A 3 ahead of B 3", "4 A2 B2 E20", "3 A2 B2 E20",
                "?a(?b(-=ab&?c(-=ac&-=bc&-Ac)&-Ab)&?b(Ab&-=ab&Eba)&-Aa)");
        parts("B 3 ahead of E 1 3", "4 B1 E01", "3 B1 E01",
                "?a(?b(-=ab&-Bb&?c(-=ac&-Bc&-=bc))&-Ba&?b(Bb&Eab&-=ab))");
        parts("E 1 3 ahead of E 3 1", "4 B0 E02 E20", "3 B0 E02 E20", "?a(?b(-=ab&?c(-=ac&-=bc&-Eac)&-Eab)&Ba)");
        parts("E 3 1 ahead of E 2 3", "5 E00 E30 E31 E40 E41", "4 E00 E30 E31",
                "?a(?b(-=ab&Eba&?c(-=ac&Eca&-=bc))&Eaa)");
        parts("E 2 3 ahead of E 3 2", "5 E24 E42", "5 E03 E24 E30 E42",
                "?a(-?b(-=ab&Eab)&?b(-?c(-=ac&-=bc&Ebc)&-=ab))");
        parts("E 3 2 ahead of E 3 3", "6 E00 E12 E52", "5 E00 E12",
                "?a(-Eaa&?b(Eab&-=ab&?c(Ecb&-=ac&-=bc))&?b(Eab&-=ab))");
    }

    private static void partByTheFirstPick() {
        parts("the last thing of the first", "6 A5", "6", "?aAa");
        parts("the last thing of the second", "6", "6 A5", "-?aAa");
        parts("rising in the first", "2 A0 B1", "1", "?aAa");
        parts("rising in the first", "2 B0 A1", "1", "?aBa");
        parts("rising in the second", "1", "3 B0 A1", "-?aBa");
        parts("rising in the second", "1", "3 A1 B2", "-?aAa");
        parts("the first ahead of the second", "2 A1", "2 B0", "?aAa");
        parts("of the second, and that one ahead of the first within", "2 A0 A1", "2 A0", "-?a-Aa");
        parts("within, too", "3 E01 E02", "4 E01 E02 E03 E31 E32", "-?a(?b(-=ab&-Eab)&?b(Eab&-=ab))");
        parts("within, the first ahead again", "4 E02 E13 E20 E31", "3 E12 E21", "-?a-?b(-=ab&Eab)");
        parts("within, the second behind the first", "2", "2 E01 E10", "?a(?b(-=ab&-Eab)&?b(-Eab&-=ab))");
    }

    private static void partLikeOnesOnce() {
        parts("six like ones", "1 A0", "6", "?aAa");
        parts("at their first place", "3 A0 B1", "3 A2", "?a(Ba&-Aa)");
        parts("one alone stands without &", "1", "6", "?a-?b-=ab");
        parts("two stand with it", "1 A0 B0", "2 A0", "?a(Ba&Aa)");
    }

    // ---- 26 kinds, 27 kind

    private static void kindsTakesWorldsAndRounds() {
        EDGES.range("26 kinds: w", ALL, 0, 5, UNKNOWN, (x, w) -> x.kinds(w, 0, 2));
        EDGES.range("26 kinds: v", ALL, 0, 5, UNKNOWN, (x, v) -> x.kinds(0, v, 2));
        EDGES.range("26 kinds: k", SOME, 0, 2, OUTSIDE, (x, k) -> x.kinds(0, 2, k));
        EDGES.range("26 kinds of one world: k", SOME, 0, 2, OUTSIDE, (x, k) -> x.kinds(5, 5, k));
        for (int w : new int[] {1, 3, 4}) {
            EDGES.refused("26 kinds: no w " + w, SOME, UNKNOWN, x -> x.kinds(w, 0, 0));
            EDGES.refused("26 kinds: no v " + w, SOME, UNKNOWN, x -> x.kinds(0, w, 0));
            EDGES.refused("26 kinds: no w, then k", SOME, UNKNOWN, x -> x.kinds(w, 0, 3));
            EDGES.refused("26 kinds: no v, then k", SOME, UNKNOWN, x -> x.kinds(0, w, -1));
        }
        EDGES.changesAtMost("26 kinds", SOME, x -> x.kinds(2, 5, 2), Edges.View.KINDS);
    }

    private static void kindsAre(String first, String second, int k, String want) {
        TwoWorlds x = two(first, second);
        String what = "26 kinds by " + k + " of " + first + " / " + second;
        int many = x.kinds(0, 1, k);
        StringBuilder got = new StringBuilder().append(many).append(':');
        for (int i = 0; i < x.told(3); i++) {
            got.append(' ').append(x.kind(i));
        }
        EDGES.due(what, got.toString(), want);
        EDGES.due("27 kind: behind the last", x.kind(x.told(3)), UNKNOWN);
    }

    private static void kindsByRounds() {
        kindsAre("1", "1", 0, "1: 0 0");
        kindsAre("1", "1 A0", 0, "2: 0 1");
        kindsAre("1 A0", "1 B0", 0, "2: 0 1");
        kindsAre("1", "1 E00", 0, "2: 0 1");
        kindsAre("4 A0 B1 A2 B2 E33", "4 E00 A1 B1 B2 A3", 0, "4: 0 1 2 3 3 2 1 0");
        kindsAre("2 A0", "2 B0 A1", 0, "3: 0 1 2 0");
        kindsAre("2 E01", "2 E01", 0, "1: 0 0 0 0");
        kindsAre("2 E01", "2 E10", 1, "2: 0 1 1 0");
        kindsAre("1", "2", 0, "1: 0 0 0");
        kindsAre("1", "2", 1, "2: 0 1 1");
        kindsAre("2", "3", 1, "1: 0 0 0 0 0");
        kindsAre("2", "3", 2, "2: 0 0 1 1 1");
        kindsAre("3", "4", 2, "1: 0 0 0 0 0 0 0");
        kindsAre("6 A0 B1 A2 B2 E33 A4 E44 B5 E55", "6 A0 B0 E00", 0, "8: 0 1 2 3 4 5 6 7 7 7 7 7");
        kindsAre("6 E01 E12 E23 E34 E45", "1", 2, "7: 0 1 2 3 4 5 6");
        kindsAre("6 E01 E12 E23 E34 E45", "6 E10 E21 E32 E43 E54", 2, "6: 0 1 2 3 4 5 5 4 3 2 1 0");
        kindsAre("6 E01 E12 E23 E34 E45", "6 E10 E21 E32 E43 E54", 0, "1: 0 0 0 0 0 0 0 0 0 0 0 0");
    }

    private static void kindTakesThings() {
        EDGES.range("27 kind: i of 7", SOME, 0, 6, UNKNOWN, TwoWorlds::kind);
        EDGES.range("27 kind: i of 12", ALL, 0, 11, UNKNOWN, TwoWorlds::kind);
        EDGES.beyond("27 kind: i of none", NEW, 0, -1, UNKNOWN, TwoWorlds::kind);
        Supplier<TwoWorlds> least = () -> {
            TwoWorlds x = two("1", "1");
            x.kinds(0, 1, 0);
            return x;
        };
        EDGES.range("27 kind: i of 2", least, 0, 1, UNKNOWN, TwoWorlds::kind);
        EDGES.changesAtMost("27 kind", SOME, x -> x.kind(0));
    }

    private static void kindsAreOfTheLatest() {
        TwoWorlds x = two("6 A5", "6 B5");
        make(x, 2, "1");
        EDGES.due("26 kinds", x.kinds(0, 1, 0), 3);
        EDGES.due("27 kind: the last", x.kind(11), 2);
        EDGES.due("26 kinds: fewer things", x.kinds(2, 2, 0), 1);
        EDGES.due("27 kind: no more than those", x.kind(2), UNKNOWN);
        EDGES.due("31 told: no more than those", x.told(3), 2);
        x.world(2, 6);
        x.mark(2, 1, 0, true);
        EDGES.due("27 kind: as told by the latest kinds(), whatever becomes of the worlds", x.kind(1), 0);
        EDGES.due("31 told: as told by the latest kinds()", x.told(3), 2);
        EDGES.due("27 kind: colours are no kinds", x.colour(0, 1, 0) * 10 + x.told(3), 32);
    }

    // ---- 28 colour, 29 coloured, 30 still

    private static void colourTakesWorldsAndBy() {
        EDGES.range("28 colour: w", ALL, 0, 5, UNKNOWN, (x, w) -> x.colour(w, 0, 1));
        EDGES.range("28 colour: v", ALL, 0, 5, UNKNOWN, (x, v) -> x.colour(0, v, 0));
        EDGES.range("28 colour: by", SOME, 0, 1, OUTSIDE, (x, by) -> x.colour(0, 2, by));
        EDGES.range("28 colour, none yet: by", () -> two("1", "1"), 0, 1, OUTSIDE, (x, by) -> x.colour(0, 1, by));
        for (int w : new int[] {1, 3, 4}) {
            EDGES.refused("28 colour: no w " + w, SOME, UNKNOWN, x -> x.colour(w, 0, 0));
            EDGES.refused("28 colour: no v " + w, SOME, UNKNOWN, x -> x.colour(0, w, 1));
            EDGES.refused("28 colour: no w, then by", SOME, UNKNOWN, x -> x.colour(w, 0, 2));
            EDGES.refused("28 colour: no v, then by", SOME, UNKNOWN, x -> x.colour(0, w, -1));
        }
        EDGES.changesAtMost("28 colour by counting", SOME, x -> x.colour(2, 5, 0), Edges.View.COLOURS);
        EDGES.changesAtMost("28 colour by two", SOME, x -> x.colour(2, 5, 1), Edges.View.COLOURS);
    }

    /** How many: the colours; how many steps parted some; whether they balance. */
    private static void coloursAre(int by, String first, String second, String want) {
        TwoWorlds x = two(first, second);
        StringBuilder got = new StringBuilder().append(x.colour(0, 1, by)).append(':');
        for (int i = 0; i < x.told(4); i++) {
            got.append(' ').append(x.coloured(i));
        }
        got.append("; ").append(x.still(0)).append("; ").append(x.still(1));
        EDGES.due("28 colour by " + by + " of " + first + " / " + second, got.toString(), want);
        EDGES.due("29 coloured: behind the last", x.coloured(x.told(4)), UNKNOWN);
    }

    private static void coloursByCounting() {
        coloursAre(0, "1", "1", "1: 0 0; 0; 1");
        coloursAre(0, "1", "2", "1: 0 0 0; 0; 0");
        coloursAre(0, "1", "1 A0", "2: 0 1; 0; 0");
        coloursAre(0, "1 B0", "1 A0", "2: 0 1; 0; 0");
        coloursAre(0, "1 E00", "1", "2: 0 1; 0; 0");
        coloursAre(0, "2 E01", "2 E10", "2: 0 1 1 0; 1; 1");
        coloursAre(0, "2 E01", "2 E01 E10", "3: 0 1 2 2; 1; 0");
        // as many things to which E holds, others from which it does
        coloursAre(0, "3 E01 E12 E20", "3 E01 E02 E12", "4: 0 0 0 1 2 3; 2; 0");
        coloursAre(0, "4 E01 E02 E03", "4 E10 E20 E30", "4: 0 1 1 1 2 3 3 3; 1; 0");
        // counted: from one thing to one, or to two of the same colour
        coloursAre(0, "3 A0 E01", "3 A0 E01 E02", "5: 0 1 2 3 4 4; 2; 0");
        coloursAre(0, "6 E01 E12 E23 E34 E45", "6 E10 E21 E32 E43 E54", "6: 0 1 2 3 4 5 5 4 3 2 1 0; 3; 1");
        coloursAre(0, "6 E00 E11 E22 E33 E44 E55", "6", "2: 0 0 0 0 0 0 1 1 1 1 1 1; 0; 0");
    }

    private static void coloursByTwo() {
        coloursAre(1, "1", "1", "1: 0 0; 0; 1");
        coloursAre(1, "1", "1 A0", "2: 0 1; 0; 0");
        coloursAre(1, "1", "2", "3: 0 1 2 2 1; 1; 0");
        coloursAre(1, "2", "2", "2: 0 1 1 0 0 1 1 0; 0; 1");
        coloursAre(1, "2", "3", "2: 0 1 1 0 0 1 1 1 0 1 1 1 0; 0; 0");
        coloursAre(1, "2 E01", "2 E10", "4: 0 1 2 3 3 2 1 0; 1; 1");
        coloursAre(1, "2 A0", "2 A1", "4: 0 1 2 3 3 2 1 0; 0; 1");
        // (1, 2) and (2, 0) differ from others by (x, second thing) alone, or by (first thing, x) alone
        coloursAre(1, "1", "3 E10", "10: 0 1 2 3 4 5 6 7 8 9; 1; 0");
        String each = "6 A0 B1 A2 B2 E33 A4 E44 B5 E55";
        TwoWorlds x = two(each, each);
        EDGES.due("28 colour by 1: all looks differ at first", x.colour(0, 1, 1), 36);
        EDGES.due("30 still: no step parted any", x.still(0), 0);
        TwoWorlds lines = new TwoWorlds();
        Check.line(lines, 0, 6);
        Check.line(lines, 1, 6);
        lines.mark(1, 0, 1, true);
        EDGES.due("28 colour by 1: as many as there are pairs", lines.colour(0, 1, 1), 72);
        EDGES.due("29 coloured: the last of them", lines.coloured(71), 71);
    }

    private static void colouredTakesThingsOrPairs() {
        EDGES.range("29 coloured: i of 25 pairs", SOME, 0, 24, UNKNOWN, TwoWorlds::coloured);
        EDGES.range("29 coloured: i of 72 pairs", ALL, 0, 71, UNKNOWN, TwoWorlds::coloured);
        EDGES.beyond("29 coloured: i of none", NEW, 0, -1, UNKNOWN, TwoWorlds::coloured);
        for (int by = 0; by < 2; by++) {
            int it = by;
            Supplier<TwoWorlds> least = () -> {
                TwoWorlds x = two("1", "1");
                x.colour(0, 1, it);
                return x;
            };
            EDGES.range("29 coloured: i of 2", least, 0, 1, UNKNOWN, TwoWorlds::coloured);
        }
        Supplier<TwoWorlds> twelve = () -> {
            TwoWorlds x = Edges.full();
            x.colour(0, 1, 0);
            return x;
        };
        EDGES.range("29 coloured: i of 12 things", twelve, 0, 11, UNKNOWN, TwoWorlds::coloured);
        EDGES.changesAtMost("29 coloured", SOME, x -> x.coloured(24));
        TwoWorlds x = Edges.full();
        x.world(0, 1);
        EDGES.due("29 coloured: whatever becomes of the worlds", x.coloured(71), Edges.full().coloured(71));
        x.colour(0, 0, 0);
        EDGES.due("29 coloured: of the latest colour()", x.coloured(2), UNKNOWN);
        EDGES.due("30 still: of the latest colour()", x.still(0) * 10 + x.still(1), 1);
        TwoWorlds kinds = two("2", "2");
        kinds.kinds(0, 1, 2);
        EDGES.due("29 coloured: kinds are no colours", kinds.coloured(0), UNKNOWN);
    }

    private static void stillTakesNumbers() {
        EDGES.range("30 still: what", SOME, 0, 1, OUTSIDE, TwoWorlds::still);
        EDGES.beyond("30 still: what, then that there was none", NEW, 0, 1, OUTSIDE, TwoWorlds::still);
        EDGES.refused("30 still: there was none", NEW, STATE, x -> x.still(0));
        EDGES.refused("30 still: there was none", NEW, STATE, x -> x.still(1));
        Supplier<TwoWorlds> refused = () -> {
            TwoWorlds x = two("1", "1");
            x.colour(0, 1, 2);
            x.colour(0, 2, 0);
            x.kinds(0, 1, 0);
            return x;
        };
        EDGES.refused("30 still: the only ones were refused", refused, STATE, x -> x.still(0));
        EDGES.refused("30 still: the only ones were refused", refused, STATE, x -> x.still(1));
        EDGES.changesAtMost("30 still", SOME, x -> x.still(0));
        EDGES.changesAtMost("30 still", SOME, x -> x.still(1));
    }

    private static void balance() {
        for (int by = 0; by < 2; by++) {
            for (int n = 1; n <= 6; n++) {
                TwoWorlds x = new TwoWorlds();
                Check.line(x, 0, n);
                x.turn(0, 0, n - 1, 1);
                Check.line(x, 2, n);
                x.mark(2, n - 1, 1, true);
                x.colour(0, 1, by);
                EDGES.due("30 still: a world and itself, turned, balance", x.still(1), 1);
                x.colour(0, 0, by);
                EDGES.due("30 still: a world and itself balance", x.still(1), 1);
                x.colour(0, 2, by);
                EDGES.due("30 still: with one mark more they do not", x.still(1), 0);
            }
        }
        TwoWorlds x = new TwoWorlds();
        x.world(0, 5);
        x.world(1, 6);
        x.colour(0, 1, 0);
        EDGES.due("30 still: the same colours, not as many of each", x.still(1), 0);
        x.colour(1, 1, 0);
        EDGES.due("30 still: a balance behind none", x.still(1), 1);
        x.colour(0, 1, 1);
        EDGES.due("30 still: the same colours, not as many of each", x.still(1), 0);
        x.world(0, 4);
        x.world(1, 4);
        x.mark(0, 0, 0, true);
        x.mark(1, 0, 0, true);
        x.mark(1, 1, 0, true);
        x.colour(0, 1, 0);
        EDGES.due("30 still: as many things, not of each colour", x.still(1), 0);
    }

    // ---- 31 told

    private static void toldTakesNumbers() {
        EDGES.range("31 told: what", NEW, 0, 4, OUTSIDE, TwoWorlds::told);
        EDGES.range("31 told: what", SOME, 0, 4, OUTSIDE, TwoWorlds::told);
        EDGES.range("31 told: what", ALL, 0, 4, OUTSIDE, TwoWorlds::told);
        for (int what = 0; what <= 4; what++) {
            int it = what;
            EDGES.changesAtMost("31 told", SOME, x -> x.told(it));
        }
    }

    private static void told(String when, TwoWorlds x, int... want) {
        for (int what = 0; what <= 4; what++) {
            EDGES.due("31 told " + what + ", " + when, x.told(what), want[what]);
        }
    }

    private static void toldFromNoneToAll() {
        told("a new object", new TwoWorlds(), 0, 0, 0, 0, 0);
        told("some", Edges.some(), 3, 3, 6, 7, 25);
        told("full", Edges.full(), 6, 20, 800, 12, 72);
        TwoWorlds x = two("1", "1");
        x.kinds(0, 1, 0);
        x.colour(0, 1, 1);
        told("the least", x, 2, 0, 0, 2, 2);
        x.world(0, 6);
        x.world(1, 6);
        x.colour(0, 1, 0);
        told("twelve things", x, 2, 0, 0, 2, 12);
        x.turn(0, 0, 1, 3);
        x.world(4, 1);
        x.join(4, 4, 5);
        told("worlds that were turned and joined", x, 5, 0, 0, 2, 12);
        x.turn(0, 0, 1, 3);
        x.world(4, 1);
        told("worlds in place of others", x, 5, 0, 0, 2, 12);
    }
}
