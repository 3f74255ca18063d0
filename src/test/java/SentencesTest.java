/** Promises 17 to 24. */
public final class SentencesTest {
    private static final Check CHECK = new Check("SentencesTest");

    private static void due(String call, long got, long want) {
        CHECK.due(call, got, want);
    }

    public static void main(String[] args) {
        feed();
        trim();
        readRight();
        readWrong();
        limitsOfNesting();
        fullOfNodes();
        fullOfSentences();
        sentenceAndWritten();
        holdsAndAsked();
        spent();
        spentToTheOne();
        same();
        CHECK.end();
    }

    private static void feed() {
        TwoWorlds x = new TwoWorlds();
        due("17 feed", x.feed(0x2D2D2D54, 0x20202020, 0x20202020, 0x0A0A0A0A, 0x20200A20), 20);
        due("17 bytes", x.told(2), 20);
        due("17 the highest first", x.read(), 0);
        CHECK.due("17 written", Check.written(x, 0), "---T");
        for (int i = 1; i <= 40; i++) {
            due("17 feed", x.feed(0x20202020, 0, 0, 0, 0), 20 * i);
        }
        due("17 full", x.feed(0, 0, 0, 0, 0), -4);
        due("17 refused", x.told(2), 800);
        due("18 trim", x.trim(781), 781);
        due("17 full", x.feed(0, 0, 0, 0, 0), -4);
        due("18 trim", x.trim(780), 780);
        due("17 just so", x.feed(0, 0, 0, 0, 0), 800);
    }

    private static void trim() {
        TwoWorlds x = new TwoWorlds();
        x.feed(0x41424344, 0, 0, 0, -1);
        due("18 below 0", x.trim(-1), -2);
        due("18 above", x.trim(21), -2);
        due("18 refused", x.told(2), 20);
        due("18 all", x.trim(20), 20);
        due("18 some", x.trim(3), 3);
        due("18 told", x.told(2), 3);
        due("18 above", x.trim(4), -2);
        due("18 none", x.trim(0), 0);
        due("18 told", x.told(2), 0);
        x.feed(0x54202020, 0x20202020, 0x20202020, 0x20202020, 0x202020FF);
        due("19 a byte above 127 is wrong", x.read(), -39);
    }

    private static void readRight() {
        String[][] texts = {
            {"T", "T"}, {"F", "F"}, {"-T", "-T"}, {" - \n T ", "-T"}, {"((T))", "T"}, {"-(T)", "-T"},
            {"T&F", "T&F"}, {"T&F&T", "T&F&T"}, {"T|F|T|F", "T|F|T|F"}, {"(T&F)|T", "(T&F)|T"},
            {"((T&F))", "T&F"}, {"(T&F)&T", "(T&F)&T"}, {"T&(F&T)", "T&(F&T)"}, {"-(T&F)", "-(T&F)"},
            {"-T&F", "-T&F"}, {"@aAa", "@aAa"}, {"@hAh", "@aAa"}, {"?h@cEhc", "?a@bEab"},
            {"? g ( @g Ag & B g )", "?a(@bAb&Ba)"}, {"@a@aEaa", "@a@bEbb"}, {"@b@a=ba", "@a@b=ab"},
            {"@a Aa & T", "@aAa&T"}, {"@a(Aa & T)", "@a(Aa&T)"}, {"@c-?b(T|-(Ec b&F))", "@a-?b(T|-(Eab&F))"},
            {"?a?b?c?d?e?f?g?h=ah", "?a?b?c?d?e?f?g?h=ah"}, {"(?hAh)&(?g@hEgh)", "?aAa&?a@bEab"},
        };
        for (String[] text : texts) {
            TwoWorlds x = new TwoWorlds();
            due("19 " + text[0], Check.read(x, text[0]), 0);
            due("19 the tape is empty", x.told(2), 0);
            due("19 one sentence", x.told(1), 1);
            CHECK.due("21 " + text[0], Check.written(x, 0), text[1]);
            due("19 as written", Check.read(x, text[1]), 1);
            due("24 as written", x.same(0, 1), 1);
        }
    }

    private static void readWrong() {
        Object[][] texts = {
            {"", 0}, {" \n ", 3}, {"t", 0}, {"TT", 1}, {"T T", 2}, {"T)", 1}, {"(T", 2}, {"(T  ", 4}, {"()", 1},
            {"T&", 2}, {"T&&T", 2}, {"&T", 0}, {"T&F|T", 3}, {"T|F&T", 3}, {"(T|F&T)", 4}, {"(T&F)|T&F", 7},
            {"-", 1}, {"@", 1}, {"@a", 2}, {"@iT", 1}, {"@AT", 1}, {"Aa", 1}, {"@aAb", 3}, {"@aEab", 4},
            {"@aEba", 3}, {"@a=a", 4}, {"@aE", 3}, {"(@aAa)&Aa", 8}, {"@aAa&Ba", 6}, {"@aAa&@bAa", 8},
            {"@aAi", 3}, {"@a(Aa", 5}, {"T\t", 1}, {"T" + (char) 0, 1}, {"T" + (char) 233, 1}, {"@ 1", 2}, {"@aA`", 3},
            {"  x", 2}, {"@a?", 3}, {"(((T))", 6}, {"(T))", 3}, {"@a@bEa", 6}, {"T - T", 2}, {"@aT@bT", 3},
        };
        for (Object[] text : texts) {
            TwoWorlds x = new TwoWorlds();
            due("19 " + text[0], Check.read(x, (String) text[0]), -20 - (Integer) text[1]);
            due("19 wrong: none kept", x.told(1), 0);
            due("19 wrong: the tape is empty", x.told(2), 0);
        }
    }

    private static void limitsOfNesting() {
        TwoWorlds x = new TwoWorlds();
        due("19 12 -", Check.read(x, "-".repeat(12) + "T"), 0);
        due("19 13 -", Check.read(x, "-".repeat(13) + "T"), -32);
        due("19 12 (", Check.read(x, "(".repeat(12) + "T" + ")".repeat(12)), 1);
        due("19 13 (", Check.read(x, "(".repeat(13) + "T" + ")".repeat(13)), -32);
        due("19 8 @", Check.read(x, "@a".repeat(8) + "Aa"), 2);
        CHECK.due("21 8 @", Check.written(x, 2), "@a@b@c@d@e@f@g@hAh");
        due("19 9 ?", Check.read(x, "?a".repeat(9) + "Aa"), -36);
        due("19 9 @, with ( between", Check.read(x, "@a".repeat(4) + "(" + "?b".repeat(4) + "@cT)"), -37);
        due("19 8 @ and 4 -", Check.read(x, "@a-".repeat(4) + "@a".repeat(4) + "T"), 3);
        due("19 8 @ and 5 -", Check.read(x, "@a-".repeat(5) + "@a".repeat(3) + "T"), -20 - 19);
        due("19 side by side", Check.read(x, "-".repeat(12) + "T&" + "-".repeat(12) + "T"), 4);
        due("19 @ within 8, side by side", Check.read(x, "(" + "@a".repeat(8) + "T)&" + "@a".repeat(8) + "T"), 5);
        due("19 within (", Check.read(x, "(T&" + "-".repeat(12) + "T)"), -20 - 14);
        String deep = "T";
        for (int i = 0; i < 12; i++) {
            deep = (i % 2 == 0 ? "T&(" : "F|(") + deep + ")";
        }
        due("19 lists within lists", Check.read(x, deep), 6);
        CHECK.due("21 lists within lists", Check.written(x, 6).substring(0, 12), "F|(T&(F|(T&(");
        x.world(0, 1);
        due("22 lists within lists", x.holds(6, 0), 1);
        due("19 the list's place in 13 lists", Check.read(x, "T&(" + deep + ")"), -20 - 38);
    }

    private static void fullOfNodes() {
        String twelve = "-".repeat(12) + "T";
        String many = twelve + ("&" + twelve).repeat(45);
        TwoWorlds x = new TwoWorlds();
        due("19 599 nodes", Check.read(x, many), 0);
        due("20 599 nodes", x.sentence(0, 1), 599);
        due("19 600 nodes", Check.read(x, many + "&F"), 1);
        due("20 600 nodes", x.sentence(1, 1), 600);
        due("19 601 nodes", Check.read(x, many + "&-F"), -4);
        due("19 full: the tape is empty", x.told(2), 0);
        due("19 full: none kept", x.told(1), 2);
        due("19 wrong ahead of full", Check.read(x, many + "&---F&"), -20 - many.length() - 6);
        due("19 wrong ahead of full", Check.read(x, many + "&---F)"), -20 - many.length() - 5);
        String all = "T" + ("&" + twelve).repeat(57);
        due("19 as many nodes as there may be", Check.read(x, all), -4);
        String lists = "(T&T)".repeat(1) + "&(T&T)".repeat(132);
        due("19 lists, 400 nodes", Check.read(x, lists), 2);
        due("20 lists, 400 nodes", x.sentence(2, 1), 1 + 3 * 133);
        due("20 as long as it was", x.sentence(2, 2), lists.length());
        due("19 a tape to its end", Check.read(x, "T" + " ".repeat(799)), 3);
        due("19 a tape of blanks", Check.read(x, " ".repeat(800)), -820);
    }

    private static void fullOfSentences() {
        TwoWorlds x = new TwoWorlds();
        for (int s = 0; s < 20; s++) {
            due("19 numbers as they come", Check.read(x, s % 2 == 0 ? "T" : "F"), s);
        }
        due("19 full", Check.read(x, "T"), -4);
        due("19 full: the tape is empty", x.told(2), 0);
        due("19 wrong ahead of full", Check.read(x, "TT"), -21);
        due("19 twenty", x.told(1), 20);
        due("20 the last", x.sentence(19, 1), 1);
        due("20 none", x.sentence(20, 1), -1);
    }

    private static void sentenceAndWritten() {
        TwoWorlds x = new TwoWorlds();
        due("20 none", x.sentence(0, 0), -1);
        due("21 none", x.written(0, 0), -1);
        Check.read(x, "(@a(Aa|?b-Eab))&T&-@c@d?e(T)");
        due("20 depth", x.sentence(0, 0), 3);
        due("20 nodes", x.sentence(0, 1), 13);
        due("20 bytes", x.sentence(0, 2), "@a(Aa|?b-Eab)&T&-@a@b?cT".length());
        CHECK.due("21 written", Check.written(x, 0), "@a(Aa|?b-Eab)&T&-@a@b?cT");
        due("20 UNKNOWN ahead of OUTSIDE", x.sentence(1, 3), -1);
        due("20 what", x.sentence(0, 3), -2);
        due("20 what", x.sentence(0, -1), -2);
        due("20 s", x.sentence(-1, 0), -1);
        due("21 s", x.written(-1, 0), -1);
        due("21 s", x.written(1, 0), -1);
        due("21 i", x.written(0, -1), -1);
        due("21 i", x.written(0, 24), -1);
        due("21 the last", x.written(0, 23), 'T');
        Check.read(x, "-T");
        due("20 depth 0", x.sentence(1, 0), 0);
        Check.read(x, "@a@bT&?c@d-?eT");
        due("20 the greatest of its parts'", x.sentence(2, 0), 3);
    }

    private static void holdsAndAsked() {
        TwoWorlds x = new TwoWorlds();
        x.world(0, 3);
        x.mark(0, 0, 0, true);
        x.mark(0, 1, 0, true);
        x.mark(0, 2, 1, true);
        x.tie(0, 0, 1, true);
        x.tie(0, 1, 2, true);
        Object[][] rows = {
            {"T", 1, 1}, {"F", 0, 1}, {"-F", 1, 2}, {"T&F&T", 0, 3}, {"T&T&T", 1, 4}, {"F|T|T", 1, 3}, {"F|F", 0, 3},
            {"@aAa", 0, 4}, {"?aBa", 1, 4}, {"?aAa", 1, 2}, {"@a(Aa|Ba)", 1, 1 + 2 + 2 + 3}, {"@a?bEab", 0, 1 + 3 + 4 + 4},
            {"?a?b(Eab&Bb)", 1, 1 + (1 + 2 + 3 + 2) + (1 + 2 + 2 + 3)}, {"@a=aa", 1, 4}, {"?a@b=ab", 0, 1 + 3 + 2 + 2},
            {"?aEaa", 0, 4}, {"((((T))))", 1, 1}, {"-@a-Aa", 1, 4},
        };
        int s = 0;
        for (Object[] row : rows) {
            String text = (String) row[0];
            due("19 " + text, Check.read(x, text), s);
            due("22 " + text, x.holds(s, 0), (Integer) row[1]);
            due("23 " + text, x.asked(), (Integer) row[2]);
            s++;
        }
        due("22 no sentence", x.holds(s, 0), -1);
        due("22 no world", x.holds(0, 1), -1);
        due("22 no world", x.holds(0, 6), -1);
        due("22 s", x.holds(-1, 0), -1);
        due("23 refused", x.asked(), 4);
        x.mark(0, 0, 0, false);
        x.mark(0, 1, 0, false);
        due("22 of the world as it is", x.holds(s - 1, 0), 0);
        due("23 asked", x.asked(), 1 + 1 + 2 * 3);
    }

    private static void spent() {
        TwoWorlds x = new TwoWorlds();
        x.world(0, 6);
        x.world(1, 5);
        Check.read(x, "@a@b@c@d@e@f@gT");
        Check.read(x, "?a?b?c?d?e(?f-T|F)");
        Check.read(x, "@a@b@c@d@e@f(T&T)");
        due("22 335923 are asked", x.holds(0, 0), -6);
        due("23 refused", x.asked(), 0);
        due("22 97656 are asked", x.holds(0, 1), 1);
        due("23 asked", x.asked(), 97656);
        due("22 refused", x.holds(0, 0), -6);
        due("23 as it was", x.asked(), 97656);
        due("22 with |", x.holds(1, 0), -6);
        due("22 with &", x.holds(2, 0), -6);
    }

    /** In a world of six, @a .. T with so many @ asks for 1 + 6 + 36 + ..; parts of these make any number. */
    private static void spentToTheOne() {
        TwoWorlds x = new TwoWorlds();
        x.world(0, 6);
        StringBuilder text = new StringBuilder("T");
        int missing = 100000 - 2;
        for (int many = 6, size = 55987; many >= 0; many--, size /= 6) {
            for (; missing >= size; missing -= size) {
                text.append('&').append("@a".repeat(many)).append('T');
            }
        }
        due("19 exactly 100000", Check.read(x, text.toString()), 0);
        due("22 exactly 100000", x.holds(0, 0), 1);
        due("23 exactly 100000", x.asked(), 100000);
        due("19 one more", Check.read(x, text + "&T"), 1);
        due("22 one more", x.holds(1, 0), -6);
        due("23 as it was", x.asked(), 100000);
    }

    private static void same() {
        TwoWorlds x = new TwoWorlds();
        due("24 none", x.same(0, 0), -1);
        Check.read(x, "@c(Ac & T)");
        Check.read(x, "(@a(Aa&(T)))");
        Check.read(x, "@a(Ba&T)");
        Check.read(x, "@aAa&T");
        Check.read(x, "T");
        due("24 itself", x.same(0, 0), 1);
        due("24 with other letters", x.same(0, 1), 1);
        due("24 B", x.same(0, 2), 0);
        due("24 brackets", x.same(0, 3), 0);
        due("24 shorter", x.same(0, 4), 0);
        due("24 longer", x.same(4, 0), 0);
        due("24 s", x.same(5, 0), -1);
        due("24 t", x.same(0, 5), -1);
        due("24 below 0", x.same(-1, 0), -1);
    }
}
