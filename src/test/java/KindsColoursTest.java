/** Promises 25 to 31. */
public final class KindsColoursTest {
    private static final Check CHECK = new Check("KindsColoursTest");

    private static void due(String call, long got, long want) {
        CHECK.due(call, got, want);
    }

    public static void main(String[] args) {
        partings();
        partingsRefused();
        kinds();
        kindsRefused();
        coloursByCounting();
        coloursByTwo();
        coloursRefused();
        told();
        CHECK.end();
    }

    private static void parting(String why, TwoWorlds x, String want) {
        int s = x.told(1);
        due("25 " + why, x.part(0, 1), s);
        CHECK.due("25 " + why, Check.written(x, s), want);
        due("25 " + why + " holds", x.holds(s, 0), 1);
        due("25 " + why + " holds not", x.holds(s, 1), 0);
        due("25 " + why + " depth", x.sentence(s, 0), x.rank(0, 1));
    }

    private static void partings() {
        TwoWorlds x = new TwoWorlds();
        x.world(0, 1);
        x.world(1, 1);
        x.mark(0, 0, 0, true);
        parting("A", x, "?aAa");
        x.mark(1, 0, 1, true);
        parting("A ahead of B", x, "?aAa");
        x.mark(1, 0, 0, true);
        parting("not B", x, "?a-Ba");
        x.mark(0, 0, 1, true);
        x.tie(1, 0, 0, true);
        parting("no loop", x, "?a-Eaa");
        x.world(1, 2);
        x.mark(1, 0, 0, true);
        x.mark(1, 0, 1, true);
        parting("a pick in the second", x, "-?a-Aa");
        x.world(0, 1);
        x.world(1, 2);
        parting("how many", x, "?a-?b-=ab");
        due("25 the other way", x.part(1, 0), x.told(1) - 1);
        CHECK.due("25 the other way", Check.written(x, x.told(1) - 1), "?a?b-=ab");

        TwoWorlds y = new TwoWorlds();
        y.world(0, 2);
        y.world(1, 2);
        y.tie(0, 0, 1, true);
        y.tie(1, 0, 1, true);
        y.tie(1, 1, 0, true);
        parting("one way and both", y, "?a(?b(-=ab&-Eba)&?b(-Eba&-=ab))");
        y.tie(1, 1, 0, false);
        y.tie(0, 1, 1, true);
        y.tie(1, 0, 0, true);
        parting("loops at other ends", y, "?a(-Eaa&?b(Eab&-=ab))");
        y.world(0, 3);
        y.world(1, 3);
        y.mark(0, 0, 0, true);
        y.mark(0, 1, 1, true);
        y.mark(1, 2, 0, true);
        parting("like ones once", y, "?a(Ba&-Aa)");
    }

    private static void partingsRefused() {
        TwoWorlds x = new TwoWorlds();
        x.world(0, 3);
        due("25 v", x.part(0, 1), -1);
        due("25 w", x.part(1, 0), -1);
        due("25 w", x.part(-1, 0), -1);
        x.world(1, 4);
        due("25 none", x.part(0, 1), -9);
        due("25 none kept", x.told(1), 0);
        x.world(2, 1);
        for (int s = 0; s < 20; s++) {
            due("25 part", x.part(0, 2), s);
        }
        due("25 full", x.part(0, 2), -4);
        due("25 NONE ahead of FULL", x.part(0, 1), -9);
        due("25 UNKNOWN ahead of FULL", x.part(0, 5), -1);
        due("25 twenty", x.told(1), 20);
        Check.put(x, "T");
        due("25 the tape stays", x.part(0, 2) + x.told(2), -3);
    }

    private static void kinds() {
        TwoWorlds x = new TwoWorlds();
        Check.line(x, 0, 3);
        Check.line(x, 1, 4);
        due("26 k 0", x.kinds(0, 1, 0), 1);
        due("27 k 0", x.kind(6), 0);
        due("26 k 1: first, between, last", x.kinds(0, 1, 1), 3);
        int[] due = {0, 1, 2, 0, 1, 1, 2};
        for (int i = 0; i < 7; i++) {
            due("27 k 1, " + i, x.kind(i), due[i]);
        }
        due("27 i", x.kind(7), -1);
        due("27 i", x.kind(-1), -1);
        due("31 things", x.told(3), 7);
        due("26 one world, twice", x.kinds(0, 0, 2), 3);
        for (int i = 0; i < 6; i++) {
            due("27 one world, twice, " + i, x.kind(i), i % 3);
        }
        x.world(2, 4);
        x.mark(2, 0, 1, true);
        x.mark(2, 1, 0, true);
        x.mark(2, 3, 0, true);
        x.world(3, 1);
        x.tie(3, 0, 0, true);
        due("26 marks and loops", x.kinds(2, 3, 0), 4);
        due("27 as they first come", x.kind(0) * 10000 + x.kind(1) * 1000 + x.kind(2) * 100 + x.kind(3) * 10 + x.kind(4), 1213);
        x.world(2, 1);
        due("27 whatever becomes of them", x.kind(3), 1);
    }

    private static void kindsRefused() {
        TwoWorlds x = new TwoWorlds();
        x.world(0, 2);
        due("26 v", x.kinds(0, 1, 1), -1);
        due("26 w", x.kinds(1, 0, 1), -1);
        due("26 k", x.kinds(0, 0, 3), -2);
        due("26 k", x.kinds(0, 0, -1), -2);
        due("26 UNKNOWN ahead of OUTSIDE", x.kinds(0, 1, 3), -1);
        due("26 refused", x.told(3), 0);
        due("26 kinds", x.kinds(0, 0, 2), 1);
        due("26 k", x.kinds(0, 0, 3), -2);
        due("26 refused: as it was", x.told(3), 4);
    }

    private static void coloursByCounting() {
        TwoWorlds x = new TwoWorlds();
        Check.rings(x, 0, 6);
        Check.rings(x, 1, 3, 3);
        due("28 rings", x.colour(0, 1, 0), 1);
        due("30 no steps", x.still(0), 0);
        due("30 they balance", x.still(1), 1);
        due("29 i", x.coloured(11), 0);
        due("29 i", x.coloured(12), -1);
        due("29 i", x.coloured(-1), -1);
        due("31 things", x.told(4), 12);
        // a path of six: 0 - 1 - 2 - 3 - 4 - 5
        x.tie(0, 5, 0, false);
        x.tie(0, 0, 5, false);
        due("28 a path and rings", x.colour(0, 1, 0), 4);
        due("30 three steps", x.still(0), 3);
        due("30 no balance", x.still(1), 0);
        int[] due = {0, 1, 2, 2, 1, 0, 3, 3, 3, 3, 3, 3};
        for (int i = 0; i < 12; i++) {
            due("29 a path and rings, " + i, x.coloured(i), due[i]);
        }
        x.world(2, 2);
        x.world(3, 3);
        due("28 bare ones", x.colour(2, 3, 0), 1);
        due("30 not as many", x.still(1), 0);
        x.tie(2, 0, 1, true);
        x.turn(2, 0, 1, 4);
        due("28 one way", x.colour(2, 4, 0), 2);
        due("29 from and to", x.coloured(0) * 1000 + x.coloured(1) * 100 + x.coloured(2) * 10 + x.coloured(3), 110);
        due("30 one step", x.still(0), 1);
        due("30 they balance", x.still(1), 1);
        x.mark(2, 1, 1, true);
        due("28 marks", x.colour(2, 4, 0), 4);
        due("30 one step", x.still(0), 1);
    }

    private static void coloursByTwo() {
        TwoWorlds x = new TwoWorlds();
        x.world(0, 1);
        x.world(1, 2);
        due("28 one thing and two", x.colour(0, 1, 1), 3);
        due("30 a step", x.still(0), 1);
        due("31 pairs", x.told(4), 5);
        int[] due = {0, 1, 2, 2, 1};
        for (int i = 0; i < 5; i++) {
            due("29 one thing and two, " + i, x.coloured(i), due[i]);
        }
        due("29 i", x.coloured(5), -1);
        x.world(2, 3);
        due("28 two things and three: no counting", x.colour(1, 2, 1), 2);
        due("30 no steps", x.still(0), 0);
        due("30 no balance", x.still(1), 0);
        due("31 pairs", x.told(4), 13);
        Check.rings(x, 0, 6);
        Check.rings(x, 1, 3, 3);
        due("28 rings", x.colour(0, 1, 1), 3);
        due("30 they balance", x.still(1), 1);
        due("31 pairs", x.told(4), 72);
        due("29 the last pair is a thing and itself", x.coloured(71), 0);
        due("29 a pair with E", x.coloured(1), 1);
        due("29 a pair without", x.coloured(2), 2);
        due("29 i", x.coloured(72), -1);
        Check.line(x, 0, 6);
        Check.line(x, 1, 5);
        x.mark(1, 2, 0, true);
        due("28 all are others", x.colour(0, 1, 1), 61);
        due("29 all are others", x.coloured(60), 60);
        x.mark(1, 2, 0, false);
        x.mark(1, 2, 1, true);
        Check.line(x, 2, 6);
        x.mark(2, 0, 0, true);
        due("28 as many as there may be", x.colour(0, 2, 1), 72);
        due("29 as many as there may be", x.coloured(71), 71);
        due("30 no balance", x.still(1), 0);
    }

    private static void coloursRefused() {
        TwoWorlds x = new TwoWorlds();
        x.world(0, 2);
        due("28 v", x.colour(0, 1, 0), -1);
        due("28 w", x.colour(6, 0, 0), -1);
        due("28 by", x.colour(0, 0, 2), -2);
        due("28 by", x.colour(0, 0, -1), -2);
        due("28 UNKNOWN ahead of OUTSIDE", x.colour(0, 1, 2), -1);
        due("30 none", x.still(0), -3);
        due("30 OUTSIDE ahead of STATE", x.still(-1), -2);
        due("31 none", x.told(4), 0);
        due("28 one world, twice", x.colour(0, 0, 1), 2);
        due("28 by", x.colour(0, 0, 2), -2);
        due("28 refused: as it was", x.told(4), 8);
        due("30 what", x.still(2), -2);
    }

    private static void told() {
        TwoWorlds x = new TwoWorlds();
        due("31 below 0", x.told(-1), -2);
        due("31 above", x.told(5), -2);
        x.world(3, 2);
        x.turn(3, 0, 1, 0);
        x.join(3, 3, 5);
        x.feed(0, 0, 0, 0, 0);
        due("31 worlds", x.told(0), 3);
        due("31 sentences", x.told(1), 0);
        due("31 bytes", x.told(2), 20);
        x.kinds(3, 5, 0);
        x.colour(3, 5, 1);
        due("31 things of kinds", x.told(3), 6);
        due("31 pairs", x.told(4), 20);
        x.colour(3, 5, 0);
        due("31 things", x.told(4), 6);
    }
}
