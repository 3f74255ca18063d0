import java.nio.charset.StandardCharsets;
import java.util.function.IntUnaryOperator;
import java.util.function.Supplier;

/** The edges of promises 17 to 24, and of what "Terms" says of sentences: the promise's number stands ahead of each. */
public final class EdgesSentencesTest {
    private static final Edges EDGES = new Edges("EdgesSentencesTest");
    private static final int UNKNOWN = Edges.UNKNOWN, OUTSIDE = Edges.OUTSIDE, FULL = Edges.FULL, SPENT = Edges.SPENT;
    private static final int READ = 0;
    private static final Supplier<TwoWorlds> NEW = TwoWorlds::new;
    private static final Supplier<TwoWorlds> SOME = Edges::some;
    private static final Supplier<TwoWorlds> ALL = Edges::full;
    private static final String SIGNS = "-@?(";

    public static void main(String[] args) {
        feedUpToTheLastByte();
        feedEachByte();
        trimTakesWhatIsThere();
        readTheEmptyAndTheFullTape();
        readEmptiesTheTape();
        readEachByteInEachPlace();
        readLists();
        readVariables();
        readWithinTwelve();
        readWithinEight();
        readUpToSixHundredNodes();
        readUpToTwentySentences();
        readRefusesInOrder();
        sentenceTakesNumbers();
        sentenceTellsDepthNodesBytes();
        writtenTakesPlaces();
        writtenBrackets();
        holdsTakesSentencesAndWorlds();
        holdsUpToAHundredThousand();
        askedInOrder();
        askedStaysWhenRefused();
        sameTakesSentences();
        sameByWhatIsWritten();
        EDGES.end();
    }

    private static TwoWorlds with(String... texts) {
        TwoWorlds x = new TwoWorlds();
        for (String text : texts) {
            Check.read(x, text);
        }
        return x;
    }

    /** The tape holds this text and nothing else. */
    private static Supplier<TwoWorlds> fed(Supplier<TwoWorlds> start, String text) {
        return () -> {
            TwoWorlds x = start.get();
            x.trim(0);
            Check.put(x, text);
            return x;
        };
    }

    private static void reads(String what, String text, String written) {
        TwoWorlds x = new TwoWorlds();
        EDGES.due(what + " " + text, Check.read(x, text), READ);
        EDGES.due(what + " " + text + " is written", Check.written(x, 0), written);
    }

    /** It is refused, the tape is empty, and nothing else is changed. */
    private static void wrong(String what, String text, int place) {
        EDGES.refusedBut(what + " " + text, fed(SOME, text), -20 - place, TwoWorlds::read, x -> x.trim(0));
    }

    // ---- 17 feed

    private static void feedUpToTheLastByte() {
        TwoWorlds x = new TwoWorlds();
        for (int i = 1; i <= 40; i++) {
            EDGES.due("17 feed " + i, x.feed(0, 0, 0, 0, 0), 20 * i);
        }
        EDGES.due("17 feed: 800 bytes and no more", x.feed(0, 0, 0, 0, 0), FULL);
        EDGES.refused("17 feed: full", ALL, FULL, y -> y.feed(0x54545454, 0, 0, 0, 0));
        for (int room = 0; room < 20; room++) {
            int bytes = 800 - room;
            Supplier<TwoWorlds> nearly = () -> {
                TwoWorlds y = Edges.full();
                y.trim(bytes);
                return y;
            };
            EDGES.refused("17 feed: room for " + room, nearly, FULL, y -> y.feed(0, 0, 0, 0, 0));
        }
        TwoWorlds just = Edges.full();
        just.trim(780);
        EDGES.due("17 feed: room for 20", just.feed(0, 0, 0, 0, 0), 800);
        TwoWorlds odd = Edges.full();
        odd.trim(1);
        EDGES.due("17 feed: behind one byte", odd.feed(0, 0, 0, 0, 0), 21);
        EDGES.changesAtMost("17 feed", SOME, y -> y.feed(1, 2, 3, 4, 5), Edges.View.TAPE);
    }

    /** Twenty places, and in each of them any byte: of each number the highest first. */
    private static void feedEachByte() {
        for (int place = 0; place < 20; place++) {
            for (int sign : new int[] {0, 1, 'T', 127, 128, 255}) {
                byte[] bytes = "                    ".getBytes(StandardCharsets.ISO_8859_1);
                bytes[place] = (byte) sign;
                TwoWorlds x = new TwoWorlds();
                x.feed(Check.word(bytes, 0), Check.word(bytes, 4), Check.word(bytes, 8), Check.word(bytes, 12),
                        Check.word(bytes, 16));
                EDGES.due("17 feed: byte " + sign + " in place " + place, x.read(), sign == 'T' ? READ : -20 - place);
            }
        }
    }

    // ---- 18 trim

    private static void trimTakesWhatIsThere() {
        EDGES.range("18 trim, an empty tape", NEW, 0, 0, OUTSIDE, TwoWorlds::trim);
        EDGES.range("18 trim, 6 bytes", SOME, 0, 6, OUTSIDE, TwoWorlds::trim);
        EDGES.beyond("18 trim, 800 bytes", ALL, 0, 800, OUTSIDE, TwoWorlds::trim);
        for (int n : new int[] {0, 1, 799, 800}) {
            TwoWorlds x = Edges.full();
            EDGES.due("18 trim to " + n, x.trim(n), n);
            EDGES.due("18 trim: bytes", x.told(2), n);
            EDGES.due("18 trim: no more than it has", x.trim(n + 1), OUTSIDE);
        }
        TwoWorlds x = new TwoWorlds();
        Check.put(x, "T&Fxyz");
        x.trim(3);
        x.feed(0x26542020, 0x20202020, 0x20202020, 0x20202020, 0x20202020);
        EDGES.due("18 trim keeps the first", x.read(), READ);
        EDGES.due("18 trim keeps the first, and more comes behind them", Check.written(x, 0), "T&F&T");
        EDGES.changesAtMost("18 trim", SOME, y -> y.trim(2), Edges.View.TAPE);
        EDGES.changesAtMost("18 trim to all that it has", SOME, y -> y.trim(6));
    }

    // ---- 19 read

    private static void readTheEmptyAndTheFullTape() {
        wrong("19 read: an empty tape", "", 0);
        for (int blanks : new int[] {1, 2, 799, 800}) {
            wrong("19 read: blanks alone", " ".repeat(blanks), blanks);
            wrong("19 read: blanks alone", "\n".repeat(blanks), blanks);
        }
        reads("19 read: a part at the tape's end", " ".repeat(799) + "T", "T");
        reads("19 read: a part at the tape's front", "T" + "\n".repeat(799), "T");
        wrong("19 read: wrong at the last byte", "T" + " ".repeat(798) + "T", 799);
        wrong("19 read: wrong at the full tape's end", "-" + " ".repeat(799), 800);
        reads("19 read: as many parts as the tape holds", "T" + "&F".repeat(399), "T" + "&F".repeat(399));
        wrong("19 read: a part is missing at the full tape's end", "T&".repeat(400), 800);
    }

    private static void readEmptiesTheTape() {
        for (String text : new String[] {"T", "t", "", "-", "@aAb"}) {
            TwoWorlds x = fed(SOME, text).get();
            x.read();
            EDGES.due("19 read: the tape is empty behind '" + text + "'", x.told(2), 0);
            EDGES.due("19 read: and wrong at 0, behind '" + text + "'", x.read(), -20);
        }
        EDGES.changesAtMost("19 read", SOME, TwoWorlds::read, Edges.View.TAPE, Edges.View.SENTENCES);
        TwoWorlds x = new TwoWorlds();
        Check.put(x, "T   T");
        x.read();
        Check.put(x, "F");
        EDGES.due("19 read: nothing is left of the text before", x.read(), READ);
    }

    /** Each of 256 bytes between two texts: READ, or the place at which it is wrong. */
    private static void eachByte(String ahead, String behind, IntUnaryOperator place) {
        for (int sign = 0; sign < 256; sign++) {
            String text = ahead + (char) sign + behind;
            int due = place.applyAsInt(sign);
            TwoWorlds x = new TwoWorlds();
            EDGES.due("19 read: byte " + sign + " between '" + ahead + "' and '" + behind + "'",
                    Check.read(x, text), due < 0 ? READ : -20 - due);
            EDGES.due("19 read: byte " + sign + ", sentences", x.told(1), due < 0 ? 1 : 0);
        }
    }

    private static boolean among(String signs, int sign) {
        return signs.indexOf(sign) >= 0;
    }

    private static void readEachByteInEachPlace() {
        String blank = " \n";
        eachByte("", "", sign -> among("TF", sign) ? -1 : among(blank + SIGNS + "ABE=", sign) ? 1 : 0);
        eachByte("T", "", sign -> among(blank, sign) ? -1 : among("&|", sign) ? 2 : 1);
        eachByte("", "T", sign -> among(blank + "-", sign) ? -1 : among("@?(ABE=TF", sign) ? among("(", sign) ? 2 : 1 : 0);
        eachByte("-", "T", sign -> among(blank + "-", sign) ? -1 : among("@?ABE=TF", sign) ? 2 : among("(", sign) ? 3 : 1);
        eachByte("@", "T", sign -> among("abcdefgh", sign) ? -1 : among(blank, sign) ? 2 : 1);
        eachByte("?", "T", sign -> among("abcdefgh", sign) ? -1 : among(blank, sign) ? 2 : 1);
        eachByte("@aA", "", sign -> sign == 'a' ? -1 : among(blank, sign) ? 4 : 3);
        eachByte("?hB", "", sign -> sign == 'h' ? -1 : among(blank, sign) ? 4 : 3);
        eachByte("@a?hA", "", sign -> among("ah", sign) ? -1 : among(blank, sign) ? 6 : 5);
        eachByte("@aE", "a", sign -> sign == 'a' ? -1 : among(blank, sign) ? 5 : 3);
        eachByte("@aE", "", sign -> among("a" + blank, sign) ? 4 : 3);
        eachByte("@a=a", "", sign -> sign == 'a' ? -1 : among(blank, sign) ? 5 : 4);
        eachByte("(T", ")", sign -> among(blank, sign) ? -1 : among("&|)", sign) ? 3 : 2);
        eachByte("(T", "", sign -> sign == ')' ? -1 : among(blank + "&|", sign) ? 3 : 2);
        eachByte("(T)", "", sign -> among(blank, sign) ? -1 : among("&|", sign) ? 4 : 3);
        eachByte("T&T", "T", sign -> sign == '&' ? -1 : among(blank, sign) ? 4 : 3);
        eachByte("T|T", "T", sign -> sign == '|' ? -1 : among(blank, sign) ? 4 : 3);
        eachByte("T&", "", sign -> among("TF", sign) ? -1 : among(blank + SIGNS + "ABE=", sign) ? 3 : 2);
        eachByte("-", "", sign -> among("TF", sign) ? -1 : among(blank + SIGNS + "ABE=", sign) ? 2 : 1);
        eachByte("@a", "", sign -> among("TF", sign) ? -1 : among(blank + SIGNS + "ABE=", sign) ? 3 : 2);
    }

    private static void readLists() {
        reads("19 read: a part", "T", "T");
        reads("19 read: two parts", "T&F", "T&F");
        reads("19 read: two parts and more", "T|F|T|F|T", "T|F|T|F|T");
        wrong("19 read: & and | without brackets", "T&F|T", 3);
        wrong("19 read: | and & without brackets", "T|F|T&F", 5);
        wrong("19 read: both within brackets", "(T&F|T)", 4);
        wrong("19 read: both behind brackets", "(T&F)|T&T", 7);
        reads("19 read: both with brackets", "(T&F)|T", "(T&F)|T");
        reads("19 read: both with brackets at the end", "T&(F|T)", "T&(F|T)");
        reads("19 read: - takes a part, not the list", "-T|F", "-T|F");
        reads("19 read: @ takes a part, not the list", "@aAa|F", "@aAa|F");
        wrong("19 read: brackets that are empty", "()", 1);
        wrong("19 read: brackets that do not end", "(T", 2);
        wrong("19 read: brackets that do not begin", "T)", 1);
        wrong("19 read: two formulas", "T T", 2);
        wrong("19 read: a list that begins with &", "&T", 0);
        wrong("19 read: a list that ends with |", "T|", 2);
        wrong("19 read: small and large letters", "t", 0);
    }

    private static void readVariables() {
        for (char letter = 'a'; letter <= 'h'; letter++) {
            String own = "@" + letter + "A" + letter;
            reads("19 read: variable", own, "@aAa");
            for (char other = 'a'; other <= 'h'; other++) {
                if (other != letter) {
                    wrong("19 read: none around has it", "@" + letter + "A" + other, 3);
                }
            }
        }
        wrong("19 read: none is around", "Aa", 1);
        wrong("19 read: none is around, B", "Ba", 1);
        wrong("19 read: none is around, E", "Eaa", 1);
        wrong("19 read: none is around, =", "=aa", 1);
        wrong("19 read: the second of E", "?bEba", 4);
        wrong("19 read: the second of =", "?b=bc", 4);
        wrong("19 read: not around any more", "@aAa&Ba", 6);
        wrong("19 read: not around any more, behind brackets", "(@a(Aa&T))|Ba", 12);
        wrong("19 read: only later around", "(Aa&@aAa)", 2);
        reads("19 read: the innermost with that letter", "@a?aAa", "@a?bAb");
        reads("19 read: the innermost has ended", "@a(?aAa&Aa)", "@a(?bAb&Aa)");
        reads("19 read: letters in another order", "@h?a(Eha&=ah)", "@a?b(Eab&=ba)");
        reads("19 read: the same letter side by side", "@aAa&?aBa", "@aAa&?aBa");
        reads("19 read: blanks between all", " @ \n a E a \n a ", "@aEaa");
    }

    /** n signs, made of the given ones in turn; a quantifier with its variable. */
    private static String around(String signs, int n) {
        StringBuilder text = new StringBuilder();
        for (int i = 0; i < n; i++) {
            char sign = signs.charAt(i % signs.length());
            text.append(sign).append(among("@?", sign) ? "a" : "");
        }
        return text.toString();
    }

    private static String closed(String ahead) {
        return ahead + "T" + ")".repeat((int) ahead.chars().filter(sign -> sign == '(').count());
    }

    private static void readWithinTwelve() {
        for (String signs : new String[] {"-", "(", "-(", "@-", "-(?", "((@", "@(?-"}) {
            for (char inner : SIGNS.toCharArray()) {
                String eleven = around(signs, 11);
                String twelve = around(signs, 12);
                String last = inner + (among("@?", inner) ? "a" : "");
                TwoWorlds x = new TwoWorlds();
                EDGES.due("19 read: within 11 others, " + eleven + last, Check.read(x, closed(eleven + last)), READ);
                wrong("19 read: within 12 others,", closed(twelve + last), twelve.length());
                wrong("19 read: within 12 others, whatever follows,", twelve + last, twelve.length());
            }
        }
        String twelve = "-".repeat(12) + "T";
        reads("19 read: side by side they are not within", twelve + "&" + twelve, twelve + "&" + twelve);
        String brackets = "(".repeat(12) + "T" + ")".repeat(12);
        reads("19 read: behind brackets they are not within", brackets + "&" + brackets, "T&T");
        wrong("19 read: brackets count, though they are not written", "(" + twelve + ")", 12);
        wrong("19 read: in the list's second part", "(T&" + twelve + ")", 14);
        reads("19 read: & and | are not counted", "-".repeat(11) + "(T&F)", "-".repeat(11) + "(T&F)");
    }

    private static void readWithinEight() {
        for (char inner : new char[] {'@', '?'}) {
            for (String signs : new String[] {"@", "?", "@?"}) {
                String seven = around(signs, 7);
                String eight = around(signs, 8);
                TwoWorlds x = new TwoWorlds();
                EDGES.due("19 read: within 7 others, " + inner, Check.read(x, seven + inner + "hAh"), READ);
                EDGES.due("19 read: depth 8", x.sentence(0, 0), 8);
                wrong("19 read: within 8 others,", eight + inner + "hAh", 16);
                wrong("19 read: within 8 others and -,", eight + "-" + inner + "hAh", 17);
                wrong("19 read: within 8 others and (,", eight + "(T&" + inner + "hAh)", 19);
            }
        }
        EDGES.due("19 read: - within 8 @", Check.read(new TwoWorlds(), "@a".repeat(8) + "----T"), READ);
        wrong("19 read: - within 8 @ and 4 -", "@a".repeat(8) + "-----T", 20);
        EDGES.due("19 read: ( within 8 ?", Check.read(new TwoWorlds(), "?a".repeat(8) + "((((T))))"), READ);
        String eight = "@a?b@c?d@e?f@g?hEah";
        reads("19 read: side by side they are not within", eight + "|" + eight, eight + "|" + eight);
        reads("19 read: behind brackets they are not within", "(" + eight + ")|" + eight, eight + "|" + eight);
    }

    /** 46 parts of 13 nodes each, and their &: 599. */
    private static String nearlyFull() {
        String part = "-".repeat(12) + "T";
        return part + ("&" + part).repeat(45);
    }

    private static void readUpToSixHundredNodes() {
        TwoWorlds x = with(nearlyFull(), nearlyFull() + "&T");
        EDGES.due("19 read: 599 nodes", x.sentence(0, 1), 599);
        EDGES.due("19 read: 600 nodes", x.sentence(1, 1), 600);
        for (String more : new String[] {"&-T", "&T&T", "&@aT", "&?hAh"}) {
            EDGES.refusedBut("19 read: 601 nodes, " + more, fed(SOME, nearlyFull() + more), FULL, TwoWorlds::read,
                    y -> y.trim(0));
        }
        String most = "T" + ("&" + "-".repeat(12) + "T").repeat(57);
        EDGES.refusedBut("19 read: the most nodes that a tape holds", fed(SOME, most), FULL, TwoWorlds::read, y -> y.trim(0));
        wrong("19 read: asked behind the text's end", nearlyFull() + "&-T&", nearlyFull().length() + 4);
        wrong("19 read: asked behind the text's end", nearlyFull() + "&-T)", nearlyFull().length() + 3);
        wrong("19 read: asked behind the text's end", nearlyFull() + "&--T  x", nearlyFull().length() + 6);
        TwoWorlds y = new TwoWorlds();
        EDGES.due("19 read: 601 nodes", Check.read(y, nearlyFull() + "&-T"), FULL);
        EDGES.due("19 read: the next one has number 0", Check.read(y, nearlyFull() + "&T"), 0);
        TwoWorlds brackets = with("T" + "&(T)".repeat(199));
        EDGES.due("19 read: brackets are no nodes", brackets.sentence(0, 1), 201);
        EDGES.due("19 read: & is one, of all its parts together", with("T" + "&T".repeat(399)).sentence(0, 1), 401);
    }

    private static void readUpToTwentySentences() {
        TwoWorlds x = new TwoWorlds();
        for (int s = 0; s < 20; s++) {
            EDGES.due("19 read: numbered as they come", Check.read(x, "T"), s);
            EDGES.due("19 read: wrong ones have no number", Check.read(x, "t"), -20);
        }
        EDGES.refusedBut("19 read: 20 sentences", fed(ALL, "T"), FULL, TwoWorlds::read, y -> y.trim(0));
        TwoWorlds mixed = new TwoWorlds();
        mixed.world(0, 1);
        mixed.world(1, 2);
        for (int s = 0; s < 20; s++) {
            EDGES.due("19 read, 25 part: numbered as they come", s % 2 == 0 ? Check.read(mixed, "T") : mixed.part(0, 1), s);
        }
        EDGES.due("19 read, 25 part: 20 ever", Check.read(mixed, "T"), FULL);
        EDGES.due("19 read, 25 part: 20 ever", mixed.part(0, 1), FULL);
    }

    private static void readRefusesInOrder() {
        EDGES.refusedBut("19 read: WRONG, then 20 sentences", fed(ALL, "TT"), -21, TwoWorlds::read, x -> x.trim(0));
        EDGES.refusedBut("19 read: WRONG, then 20 sentences", fed(ALL, ""), -20, TwoWorlds::read, x -> x.trim(0));
        String many = nearlyFull() + "&-T&";
        EDGES.refusedBut("19 read: WRONG, then nodes and sentences", fed(ALL, many), -20 - many.length(), TwoWorlds::read,
                x -> x.trim(0));
        EDGES.refusedBut("19 read: nodes and 20 sentences", fed(ALL, nearlyFull() + "&-T"), FULL, TwoWorlds::read,
                x -> x.trim(0));
    }

    // ---- 20 sentence

    private static void sentenceTakesNumbers() {
        EDGES.range("20 sentence: s of 3", SOME, 0, 2, UNKNOWN, (x, s) -> x.sentence(s, 0));
        EDGES.range("20 sentence: s of 20", ALL, 0, 19, UNKNOWN, (x, s) -> x.sentence(s, 2));
        EDGES.beyond("20 sentence: s of none", NEW, 0, -1, UNKNOWN, (x, s) -> x.sentence(s, 0));
        EDGES.range("20 sentence: what", SOME, 0, 2, OUTSIDE, (x, what) -> x.sentence(2, what));
        EDGES.refused("20 sentence: no sentence, then what", SOME, UNKNOWN, x -> x.sentence(3, 3));
        EDGES.refused("20 sentence: no sentence, then what", NEW, UNKNOWN, x -> x.sentence(0, -1));
        EDGES.changesAtMost("20 sentence", SOME, x -> x.sentence(1, 1));
    }

    private static void tells(String text, int depth, int nodes, int bytes) {
        TwoWorlds x = with(text);
        EDGES.due("20 sentence: depth of " + text, x.sentence(0, 0), depth);
        EDGES.due("20 sentence: nodes of " + text, x.sentence(0, 1), nodes);
        EDGES.due("20 sentence: bytes of " + text, x.sentence(0, 2), bytes);
    }

    private static void sentenceTellsDepthNodesBytes() {
        tells("T", 0, 1, 1);
        tells("-T", 0, 2, 2);
        tells("((T))", 0, 1, 1);
        tells("T&F", 0, 3, 3);
        tells("@aT", 1, 2, 3);
        tells("?aAa", 1, 2, 4);
        tells("@a=aa", 1, 2, 5);
        tells("@a-?b(Eab|T)", 2, 6, 12);
        tells("@aT&@a@bT&@aT", 2, 8, 13);
        tells("@a@bT|T", 2, 5, 7);
        tells("@a@a@a@a@a@a@a@aAa", 8, 9, 18);
        tells("T" + " ".repeat(799), 0, 1, 1);
        tells("(T&T)" + "&(T|T)".repeat(132), 0, 1 + 3 * 133, 797);
        TwoWorlds x = with("@a@b@cT", "T", "-?aT");
        EDGES.due("20 sentence: nothing of the one before", x.sentence(1, 0) * 10 + x.sentence(2, 0), 1);
        tells("T" + "&F".repeat(399), 0, 401, 799);
    }

    // ---- 21 written

    private static void writtenTakesPlaces() {
        EDGES.range("21 written: s of 3", SOME, 0, 2, UNKNOWN, (x, s) -> x.written(s, 0));
        EDGES.range("21 written: s of 20", ALL, 0, 19, UNKNOWN, (x, s) -> x.written(s, 0));
        EDGES.beyond("21 written: s of none", NEW, 0, -1, UNKNOWN, (x, s) -> x.written(s, 0));
        EDGES.range("21 written: i of 4 bytes", SOME, 0, 3, UNKNOWN, (x, i) -> x.written(0, i));
        EDGES.range("21 written: i of 1 byte", ALL, 0, 0, UNKNOWN, (x, i) -> x.written(0, i));
        EDGES.refused("21 written: neither", SOME, UNKNOWN, x -> x.written(3, 4));
        Supplier<TwoWorlds> longest = () -> with("T" + "&F".repeat(399));
        EDGES.due("21 written: the last of 799 bytes", longest.get().written(0, 798), 'F');
        EDGES.refused("21 written: behind 799 bytes", longest, UNKNOWN, x -> x.written(0, 799));
        EDGES.changesAtMost("21 written", SOME, x -> x.written(1, 1));
    }

    private static void writtenBrackets() {
        reads("21 written: nothing else", " ( ( T ) ) \n", "T");
        reads("21 written: & alone has none", "((T)&(F))", "T&F");
        reads("21 written: & that is a part of &", "(T&F)&T", "(T&F)&T");
        reads("21 written: | that is a part of &", "(T|F)&((T|F))", "(T|F)&(T|F)");
        reads("21 written: & that is a part of -", "-(T&F)", "-(T&F)");
        reads("21 written: | that is a part of @", "@a(T|Aa)", "@a(T|Aa)");
        reads("21 written: & that is a part of ?", "?a((T&Aa))", "?a(T&Aa)");
        reads("21 written: - that is a part of anything has none", "-(-(T))&@a(-(Aa))", "--T&@a-Aa");
        reads("21 written: @ that is a part of anything has none", "-(@a(?b(T)))|(@cAc)", "-@a?bT|@aAa");
        reads("21 written: by how many are around it", "@h(?gEhg&@fBf)", "@a(?bEab&@bBb)");
        reads("21 written: the eighth letter", "@h@g@f@e@d@c@b@aEha", "@a@b@c@d@e@f@g@hEah");
        reads("21 written: a variable that is hidden", "@a@a@aEaa", "@a@b@cEcc");
    }

    // ---- 22 holds, 23 asked

    private static void holdsTakesSentencesAndWorlds() {
        EDGES.range("22 holds: s of 3", SOME, 0, 2, UNKNOWN, (x, s) -> x.holds(s, 0));
        EDGES.range("22 holds: s of 20", ALL, 0, 19, UNKNOWN, (x, s) -> x.holds(s, 0));
        EDGES.beyond("22 holds: s of none", NEW, 0, -1, UNKNOWN, (x, s) -> x.holds(s, 0));
        EDGES.range("22 holds: w", ALL, 0, 5, UNKNOWN, (x, w) -> x.holds(0, w));
        for (int w : new int[] {1, 3, 4}) {
            EDGES.refused("22 holds: no world " + w, SOME, UNKNOWN, x -> x.holds(0, w));
        }
        EDGES.refused("22 holds: neither", SOME, UNKNOWN, x -> x.holds(3, 1));
        EDGES.changesAtMost("22 holds", SOME, x -> x.holds(0, 2), Edges.View.SENTENCES);
        EDGES.changesAtMost("22 holds, as it was ASKED", SOME, x -> x.holds(1, 0));
        EDGES.changesAtMost("23 asked", SOME, TwoWorlds::asked);
    }

    /** A list of which as many are asked, itself among them, in a world of six of which nothing is marked. */
    private static String asking(int many, String between, String atom, String quantifier) {
        StringBuilder text = new StringBuilder(atom);
        int missing = many - 2;
        for (int deep = 6, size = 55987; deep >= 0; deep--, size /= 6) {
            for (; missing >= size; missing -= size) {
                text.append(between).append((quantifier + "a").repeat(deep)).append(atom);
            }
        }
        return text.toString();
    }

    private static TwoWorlds six(String... texts) {
        TwoWorlds x = with(texts);
        x.world(0, 6);
        x.world(1, 5);
        return x;
    }

    private static void holdsUpToAHundredThousand() {
        String all = asking(100000, "&", "T", "@");
        String some = asking(100000, "|", "F", "?");
        TwoWorlds x = six(all, some, "-(" + all + ")", all + "&F", asking(99999, "|", "F", "?") + "|T");
        EDGES.due("22 holds: 100000 are asked", x.holds(0, 0), 1);
        EDGES.due("23 asked: 100000", x.asked(), 100000);
        EDGES.due("22 holds: 100000 are asked of |", x.holds(1, 0), 0);
        EDGES.due("23 asked: 100000 of |", x.asked(), 100000);
        EDGES.due("22 holds: 100000 are asked, the last one holds", x.holds(4, 0), 1);
        EDGES.due("23 asked: 100000, the last one holds", x.asked(), 100000);
        EDGES.due("22 holds: 100001", x.holds(2, 0), SPENT);
        EDGES.due("22 holds: 100001, the last one does not hold", x.holds(3, 0), SPENT);
        Supplier<TwoWorlds> spent = () -> {
            TwoWorlds y = six(all + "&T", some + "|F", "@a@b@c@d@e@f@gT");
            y.holds(0, 1);
            return y;
        };
        EDGES.refused("22 holds: 100001 of &", spent, SPENT, y -> y.holds(0, 0));
        EDGES.refused("22 holds: 100001 of |", spent, SPENT, y -> y.holds(1, 0));
        EDGES.refused("22 holds: far more", spent, SPENT, y -> y.holds(2, 0));
        TwoWorlds early = six("T|@a@b@c@d@e@f@gT", "@a@b@c@d@e@f@g@hT");
        EDGES.due("22 holds: what is not asked is not counted", early.holds(0, 0), 1);
        EDGES.due("23 asked: what is not asked is not counted", early.asked(), 2);
        EDGES.due("22 holds: the most that can be asked", early.holds(1, 0), SPENT);
        EDGES.due("22 holds: no world, then SPENT", early.holds(1, 2), UNKNOWN);
    }

    private static void asks(String text, int holds, int asked) {
        TwoWorlds x = with(text);
        x.world(0, 3);
        x.mark(0, 1, 0, true);
        x.mark(0, 2, 1, true);
        EDGES.due("22 holds: " + text, x.holds(0, 0), holds);
        EDGES.due("23 asked: " + text, x.asked(), asked);
    }

    private static void askedInOrder() {
        asks("T", 1, 1);
        asks("((F))", 0, 1);
        asks("-T", 0, 2);
        asks("F&T&T", 0, 2);
        asks("T&T&F", 0, 4);
        asks("T|F|F", 1, 2);
        asks("F|F|T", 1, 4);
        asks("F|F|F", 0, 4);
        asks("T&T&T", 1, 4);
        asks("@a-Aa", 0, 1 + 2 + 2);
        asks("?aAa", 1, 1 + 1 + 1);
        asks("@aT", 1, 4);
        asks("?aF", 0, 4);
        asks("?aBa", 1, 4);
        asks("@aAa", 0, 2);
        asks("@a(Aa|Ba|T)", 1, 1 + 4 + 2 + 3);
        asks("?a@b=ab", 0, 1 + 3 + 2 + 2);
        asks("@a?b=ab", 1, 1 + 2 + 3 + 4);
        asks("?a?b(Aa&Bb)", 1, 1 + 7 + 1 + 3 + 3 + 3);
    }

    private static void askedStaysWhenRefused() {
        TwoWorlds x = six("@aT", "@a@b@c@d@e@f@gT");
        EDGES.due("23 asked: 0 ahead of any", x.asked(), 0);
        x.holds(1, 0);
        EDGES.due("23 asked: 0, for it was refused (SPENT)", x.asked(), 0);
        x.holds(0, 2);
        EDGES.due("23 asked: 0, for it was refused (UNKNOWN)", x.asked(), 0);
        x.holds(0, 0);
        EDGES.due("23 asked: by the latest", x.asked(), 7);
        x.holds(0, 1);
        EDGES.due("23 asked: by the latest", x.asked(), 6);
        x.holds(1, 0);
        EDGES.due("23 asked: by the latest that was not refused (SPENT)", x.asked(), 6);
        x.holds(2, 0);
        EDGES.due("23 asked: by the latest that was not refused (UNKNOWN)", x.asked(), 6);
        x.part(0, 1);
        x.game(0, 1, 3);
        Check.read(x, "T");
        EDGES.due("23 asked: by holds() alone", x.asked(), 6);
    }

    // ---- 24 same

    private static void sameTakesSentences() {
        EDGES.range("24 same: s of 3", SOME, 0, 2, UNKNOWN, (x, s) -> x.same(s, 0));
        EDGES.range("24 same: t of 3", SOME, 0, 2, UNKNOWN, (x, t) -> x.same(0, t));
        EDGES.range("24 same: s of 20", ALL, 0, 19, UNKNOWN, (x, s) -> x.same(s, 19));
        EDGES.range("24 same: t of 20", ALL, 0, 19, UNKNOWN, (x, t) -> x.same(19, t));
        EDGES.beyond("24 same: both, of none", NEW, 0, -1, UNKNOWN, (x, s) -> x.same(s, s));
        EDGES.changesAtMost("24 same", SOME, x -> x.same(1, 1));
    }

    private static void alike(String one, String other, int due) {
        TwoWorlds x = with(one, other);
        EDGES.due("24 same: " + one + " and " + other, x.same(0, 1), due);
        EDGES.due("24 same: " + other + " and " + one, x.same(1, 0), due);
        EDGES.due("24 same: itself", x.same(0, 0), 1);
    }

    private static void sameByWhatIsWritten() {
        alike("T", "T", 1);
        alike("T", "F", 0);
        alike("((T))", " T\n", 1);
        alike("@aAa", "@hAh", 1);
        alike("@aAa", "?aAa", 0);
        alike("@a@bEab", "@a@bEba", 0);
        alike("@a@bEab", "@b@aEba", 1);
        alike("T&F&T", "(T&F)&T", 0);
        alike("T&F", "T&F&F", 0);
        alike("T&F", "F&T", 0);
        alike("--T", "T", 0);
        TwoWorlds x = with("?a-?b-=ab");
        x.world(0, 1);
        x.world(1, 2);
        x.part(0, 1);
        EDGES.due("24 same: one that was read and one that was made", x.same(0, 1), 1);
    }
}
