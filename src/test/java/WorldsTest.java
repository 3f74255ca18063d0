/** Promises 1 to 8. */
public final class WorldsTest {
    private static final Check CHECK = new Check("WorldsTest");

    private static void due(String call, long got, long want) {
        CHECK.due(call, got, want);
    }

    public static void main(String[] args) {
        constants();
        newObject();
        world();
        mark();
        tie();
        turn();
        join();
        aboutAndTied();
        CHECK.end();
    }

    private static void constants() {
        due("UNKNOWN", TwoWorlds.UNKNOWN, -1);
        due("OUTSIDE", TwoWorlds.OUTSIDE, -2);
        due("STATE", TwoWorlds.STATE, -3);
        due("FULL", TwoWorlds.FULL, -4);
        due("SPENT", TwoWorlds.SPENT, -6);
        due("NONE", TwoWorlds.NONE, -9);
    }

    private static void newObject() {
        TwoWorlds x = new TwoWorlds();
        for (int what = 0; what < 5; what++) {
            due("1 told(" + what + ")", x.told(what), 0);
        }
        for (int w = -1; w < 7; w++) {
            due("1 about(" + w + ", 0)", x.about(w, 0), -1);
        }
        due("1 state()", x.state(), 0);
        due("1 left()", x.left(), -3);
        due("1 best()", x.best(), -3);
        due("1 pick(0, 0)", x.pick(0, 0), -3);
        due("1 answer(0)", x.answer(0), -3);
        due("1 kind(0)", x.kind(0), -1);
        due("1 coloured(0)", x.coloured(0), -1);
        due("1 still(0)", x.still(0), -3);
        due("1 still(1)", x.still(1), -3);
        due("1 still(2)", x.still(2), -2);
        due("1 asked()", x.asked(), 0);
        due("1 sentence(0, 0)", x.sentence(0, 0), -1);
        due("1 trim(0)", x.trim(0), 0);
        due("1 trim(1)", x.trim(1), -2);
        due("1 read()", x.read(), -20);
    }

    private static void world() {
        TwoWorlds x = new TwoWorlds();
        due("2 no world -1", x.world(-1, 3), -1);
        due("2 no world 6", x.world(6, 3), -1);
        due("2 UNKNOWN ahead of OUTSIDE", x.world(6, 0), -1);
        due("2 no things", x.world(0, 0), -2);
        due("2 below 0", x.world(0, -1), -2);
        due("2 seven things", x.world(0, 7), -2);
        due("2 the least number", x.world(0, Integer.MIN_VALUE), -2);
        due("2 refused: none is there", x.told(0), 0);
        for (int w = 0; w < 6; w++) {
            due("2 world", x.world(w, w + 1), w + 1);
            due("2 how many", x.told(0), w + 1);
            due("2 things", x.about(w, 0), w + 1);
        }
        x.mark(5, 0, 0, true);
        x.mark(5, 5, 1, true);
        x.tie(5, 0, 5, true);
        due("2 refused", x.world(5, 7), -2);
        due("2 refused: as it was", x.about(5, 3), 1);
        due("2 again", x.world(5, 6), 6);
        due("2 bare A", x.about(5, 1), 0);
        due("2 bare B", x.about(5, 2), 0);
        due("2 bare E", x.about(5, 3), 0);
        due("2 smaller", x.world(5, 2), 2);
        due("2 thing 2 is gone", x.mark(5, 2, 0, true), -1);
        due("2 as many worlds", x.told(0), 6);
    }

    private static void mark() {
        TwoWorlds x = new TwoWorlds();
        due("3 no world", x.mark(0, 0, 0, true), -1);
        x.world(0, 3);
        due("3 A", x.mark(0, 1, 0, true), 1);
        due("3 A again", x.mark(0, 1, 0, true), 0);
        due("3 B", x.mark(0, 1, 1, true), 1);
        due("3 marks", x.about(0, 11), 3);
        due("3 A no more", x.mark(0, 1, 0, false), 1);
        due("3 A no more, again", x.mark(0, 1, 0, false), 0);
        due("3 marks", x.about(0, 11), 2);
        due("3 was not", x.mark(0, 2, 1, false), 0);
        due("3 no such thing", x.mark(0, 3, 0, true), -1);
        due("3 no such thing", x.mark(0, -1, 0, true), -1);
        due("3 which", x.mark(0, 0, 2, true), -2);
        due("3 which", x.mark(0, 0, -1, true), -2);
        due("3 UNKNOWN ahead of OUTSIDE", x.mark(0, 3, 2, true), -1);
        due("3 UNKNOWN ahead of OUTSIDE", x.mark(1, 0, 2, true), -1);
        due("3 no world", x.mark(6, 0, 0, true), -1);
        due("3 no world", x.mark(-1, 0, 0, true), -1);
        due("3 nothing else", x.about(0, 1) * 10 + x.about(0, 2), 1);
    }

    private static void tie() {
        TwoWorlds x = new TwoWorlds();
        due("4 no world", x.tie(0, 0, 0, true), -1);
        x.world(0, 3);
        due("4 tie", x.tie(0, 0, 1, true), 1);
        due("4 again", x.tie(0, 0, 1, true), 0);
        due("4 one way", x.tied(0, 1, 0), 0);
        due("4 itself", x.tie(0, 2, 2, true), 1);
        due("4 pairs", x.about(0, 3), 2);
        due("4 no more", x.tie(0, 0, 1, false), 1);
        due("4 no more, again", x.tie(0, 0, 1, false), 0);
        due("4 pairs", x.about(0, 3), 1);
        due("4 no such thing", x.tie(0, 3, 0, true), -1);
        due("4 no such thing", x.tie(0, 0, 3, true), -1);
        due("4 no such thing", x.tie(0, -1, 0, true), -1);
        due("4 no such thing", x.tie(0, 0, -1, true), -1);
        due("4 no such thing, far off", x.tie(0, 32, 32, true), -1);
        due("4 no world", x.tie(6, 0, 0, true), -1);
        due("4 pairs", x.about(0, 3), 1);
    }

    private static void turn() {
        TwoWorlds x = new TwoWorlds();
        due("5 no world", x.turn(0, 0, 0, 1), -1);
        x.world(0, 3);
        x.mark(0, 0, 0, true);
        x.tie(0, 0, 1, true);
        x.tie(0, 1, 1, true);
        x.tie(0, 2, 0, true);
        due("5 a", x.turn(0, 3, 0, 1), -1);
        due("5 b", x.turn(0, 0, 3, 1), -1);
        due("5 a below 0", x.turn(0, -1, 0, 1), -1);
        due("5 v", x.turn(0, 0, 1, 6), -1);
        due("5 v below 0", x.turn(0, 0, 1, -1), -1);
        due("5 refused", x.told(0), 1);
        due("5 turn", x.turn(0, 0, 1, 4), 1);
        due("5 it is there", x.about(4, 0), 3);
        due("5 marks of 0", x.about(4, 10), 0);
        due("5 marks of 1", x.about(4, 11), 1);
        due("5 0 and itself", x.tied(4, 0, 0), 1);
        due("5 1 to 0", x.tied(4, 1, 0), 1);
        due("5 2 to 1", x.tied(4, 2, 1), 1);
        due("5 nothing else", x.about(4, 3), 3);
        due("5 w as it was", x.tied(0, 0, 1), 1);
        due("5 in its own place", x.turn(0, 2, 0, 0), 1);
        due("5 marks of 2", x.about(0, 12), 1);
        due("5 2 to 1", x.tied(0, 2, 1), 1);
        due("5 0 to 2", x.tied(0, 0, 2), 1);
        due("5 1 and itself", x.tied(0, 1, 1), 1);
        due("5 one thing", x.turn(4, 1, 1, 5), 1);
        due("5 the same", x.about(5, 11) * 10 + x.tied(5, 1, 0), 11);
    }

    private static void join() {
        TwoWorlds x = new TwoWorlds();
        due("6 no world", x.join(0, 0, 0), -1);
        x.world(0, 2);
        x.tie(0, 0, 1, true);
        x.mark(0, 1, 1, true);
        x.world(1, 3);
        x.tie(1, 2, 0, true);
        x.mark(1, 0, 0, true);
        due("6 no v", x.join(0, 2, 3), -1);
        due("6 no w", x.join(2, 0, 3), -1);
        due("6 no x", x.join(0, 1, 6), -1);
        due("6 no x", x.join(0, 1, -1), -1);
        due("6 join", x.join(0, 1, 3), 5);
        due("6 things", x.about(3, 0), 5);
        due("6 E", x.tied(3, 0, 1), 1);
        due("6 E", x.tied(3, 4, 2), 1);
        due("6 pairs", x.about(3, 3), 2);
        due("6 B", x.about(3, 11), 2);
        due("6 A", x.about(3, 12), 1);
        due("6 x is v", x.join(1, 1, 1), 6);
        due("6 E", x.tied(1, 2, 0) + x.tied(1, 5, 3), 2);
        due("6 pairs", x.about(1, 3), 2);
        due("6 too many", x.join(1, 0, 4), -2);
        due("6 UNKNOWN ahead of OUTSIDE", x.join(1, 0, 6), -1);
        due("6 refused", x.about(4, 0), -1);
        due("6 x is w", x.join(0, 0, 0), 4);
        due("6 E", x.tied(0, 0, 1) + x.tied(0, 2, 3), 2);
        due("6 B", x.about(0, 2), 2);
    }

    private static void aboutAndTied() {
        TwoWorlds x = new TwoWorlds();
        due("8 no world", x.tied(0, 0, 0), -1);
        x.world(2, 4);
        x.mark(2, 0, 0, true);
        x.mark(2, 1, 0, true);
        x.mark(2, 1, 1, true);
        x.mark(2, 2, 0, true);
        x.tie(2, 3, 3, true);
        x.tie(2, 3, 1, true);
        due("7 things", x.about(2, 0), 4);
        due("7 A", x.about(2, 1), 3);
        due("7 B", x.about(2, 2), 1);
        due("7 E", x.about(2, 3), 2);
        due("7 marks", x.about(2, 10) * 1000 + x.about(2, 11) * 100 + x.about(2, 12) * 10 + x.about(2, 13), 1310);
        due("7 what", x.about(2, 4), -2);
        due("7 what", x.about(2, 9), -2);
        due("7 what", x.about(2, -1), -2);
        due("7 what", x.about(2, 14), -2);
        due("7 what", x.about(2, Integer.MAX_VALUE), -2);
        due("7 what", x.about(2, Integer.MIN_VALUE), -2);
        due("7 UNKNOWN ahead of OUTSIDE", x.about(1, 4), -1);
        due("8 itself", x.tied(2, 3, 3), 1);
        due("8 there", x.tied(2, 3, 1), 1);
        due("8 back", x.tied(2, 1, 3), 0);
        due("8 a", x.tied(2, 4, 0), -1);
        due("8 b", x.tied(2, 0, 4), -1);
        due("8 a below 0", x.tied(2, -1, 0), -1);
        due("8 b below 0", x.tied(2, 0, -1), -1);
        due("8 w", x.tied(6, 0, 0), -1);
    }
}
