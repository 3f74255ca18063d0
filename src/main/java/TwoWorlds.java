import java.util.Arrays;

/** A game of two small worlds, its plays, its sentences, and what the game tells of the worlds' things. */
public final class TwoWorlds {
    public static final int UNKNOWN = -1, OUTSIDE = -2, STATE = -3, FULL = -4, SPENT = -6, NONE = -9;

    private static final int WORLDS = 6;
    private static final int THINGS = 6;
    private static final int ROUNDS = 3;
    private static final int KIND_ROUNDS = 2;
    private static final int SENTENCES = 20;
    private static final int TAPE_BYTES = 800;
    private static final int FEED_BYTES = 20;
    private static final int SENTENCE_NODES = 600;
    private static final int SIGNS_AROUND = 12;
    private static final int QUANTIFIERS_AROUND = 8;
    private static final int ASKED_MOST = 100000;
    private static final int WRONG_BASE = -20;
    /** A parting of worlds of 6 things, 3 rounds deep, has at most 1294; what was read has no more than the tape. */
    private static final int TEXT_BYTES = 1300;
    /** 12 signs around, and an & or | within each of them, an atom innermost: no formula goes deeper. */
    private static final int DEEPEST = 30;
    private static final int PAIRS_OF_BOTH = 2 * THINGS * THINGS;
    private static final int SIGNATURE = 4;
    /** Added to a pick of the second of the two worlds, so that one number tells the world and the thing. */
    private static final int SECOND_SIDE = 10;

    private static final int NO_PLAY = 0;
    private static final int SEEKERS_TURN = 1;
    private static final int KEEPERS_TURN = 2;
    private static final int KEEPER_HAS_WON = 3;
    private static final int SEEKER_HAS_WON = 4;

    private final World[] worlds = new World[WORLDS];
    private final World joined = new World();
    private final Match match = new Match();
    private final Play current = new Play();
    private final Tape tape = new Tape();
    private final Nodes nodes = new Nodes();
    private final Writer writer = new Writer();
    private final Asker asker = new Asker();
    private final Sentence[] sentences = new Sentence[SENTENCES];
    private int sentenceCount = 0;
    private final Kinds sorted = new Kinds();
    private final Colours colours = new Colours();

    public TwoWorlds() {
        for (int w = 0; w < WORLDS; w++) {
            worlds[w] = new World();
        }
    }

    // ---- 1 worlds

    public int world(int w, int n) {
        World place = placeOf(w);
        if (place == null) {
            return UNKNOWN;
        }
        if (n < 1 || n > THINGS) {
            return OUTSIDE;
        }
        place.makeBare(n);
        return n;
    }

    public int mark(int w, int thing, int which, boolean is) {
        World it = worldOf(w);
        if (it == null || !it.has(thing)) {
            return UNKNOWN;
        }
        if (which != 0 && which != 1) {
            return OUTSIDE;
        }
        return it.setMark(thing, which, is) ? 1 : 0;
    }

    public int tie(int w, int a, int b, boolean is) {
        World it = worldOf(w);
        if (it == null || !it.has(a) || !it.has(b)) {
            return UNKNOWN;
        }
        return it.setTie(a, b, is) ? 1 : 0;
    }

    public int turn(int w, int a, int b, int v) {
        World from = worldOf(w);
        World to = placeOf(v);
        if (from == null || !from.has(a) || !from.has(b) || to == null) {
            return UNKNOWN;
        }
        to.become(from);
        to.exchange(a, b);
        return 1;
    }

    public int join(int w, int v, int x) {
        World first = worldOf(w);
        World second = worldOf(v);
        World to = placeOf(x);
        if (first == null || second == null || to == null) {
            return UNKNOWN;
        }
        if (first.size() + second.size() > THINGS) {
            return OUTSIDE;
        }
        // The place may be one of the two, so they are joined elsewhere first.
        joined.become(first);
        joined.append(second);
        to.become(joined);
        return to.size();
    }

    public int about(int w, int what) {
        World it = worldOf(w);
        if (it == null) {
            return UNKNOWN;
        }
        if (what == 0) {
            return it.size();
        }
        if (what == 1 || what == 2) {
            return it.countMarked(what - 1);
        }
        if (what == 3) {
            return it.countTies();
        }
        if (what >= 10 && it.has(what - 10)) {
            return it.marksOf(what - 10);
        }
        return OUTSIDE;
    }

    public int tied(int w, int a, int b) {
        World it = worldOf(w);
        if (it == null || !it.has(a) || !it.has(b)) {
            return UNKNOWN;
        }
        return it.isTied(a, b) ? 1 : 0;
    }

    // ---- 1 the game

    public int game(int w, int v, int k) {
        World first = worldOf(w);
        World second = worldOf(v);
        if (first == null || second == null) {
            return UNKNOWN;
        }
        if (k < 0 || k > ROUNDS) {
            return OUTSIDE;
        }
        match.begin(first, second);
        return match.keeperWins(k) ? 1 : 0;
    }

    public int rank(int w, int v) {
        World first = worldOf(w);
        World second = worldOf(v);
        if (first == null || second == null) {
            return UNKNOWN;
        }
        match.begin(first, second);
        return match.leastRounds();
    }

    public int play(int w, int v, int k) {
        World first = worldOf(w);
        World second = worldOf(v);
        if (first == null || second == null) {
            return UNKNOWN;
        }
        if (k < 0 || k > ROUNDS) {
            return OUTSIDE;
        }
        current.begin(first, second, k);
        return 1;
    }

    public int pick(int side, int thing) {
        return current.seekerPicks(side, thing);
    }

    public int answer(int thing) {
        return current.keeperAnswers(thing);
    }

    public int best() {
        return current.bestMove();
    }

    public int state() {
        return current.stage();
    }

    public int left() {
        return current.stage() == NO_PLAY ? STATE : current.roundsLeft();
    }

    // ---- 2 sentences

    public int feed(int a, int b, int c, int d, int e) {
        if (tape.length() + FEED_BYTES > TAPE_BYTES) {
            return FULL;
        }
        tape.putNumber(a);
        tape.putNumber(b);
        tape.putNumber(c);
        tape.putNumber(d);
        tape.putNumber(e);
        return tape.length();
    }

    public int trim(int n) {
        if (n < 0 || n > tape.length()) {
            return OUTSIDE;
        }
        tape.cutTo(n);
        return n;
    }

    public int read() {
        nodes.clear();
        int wrongAt = tape.parse(nodes);
        tape.cutTo(0);
        if (wrongAt >= 0) {
            return WRONG_BASE - wrongAt;
        }
        if (nodes.count() > SENTENCE_NODES) {
            return FULL;
        }
        return keepSentence();
    }

    public int sentence(int s, int what) {
        Sentence it = sentenceOf(s);
        if (it == null) {
            return UNKNOWN;
        }
        if (what == 0) {
            return it.depth();
        }
        if (what == 1) {
            return it.nodes().length;
        }
        return what == 2 ? it.text().length : OUTSIDE;
    }

    public int written(int s, int i) {
        Sentence it = sentenceOf(s);
        if (it == null) {
            return UNKNOWN;
        }
        byte[] text = it.text();
        return i >= 0 && i < text.length ? text[i] : UNKNOWN;
    }

    public int holds(int s, int w) {
        Sentence it = sentenceOf(s);
        World where = worldOf(w);
        if (it == null || where == null) {
            return UNKNOWN;
        }
        return asker.test(it.nodes(), where);
    }

    public int asked() {
        return asker.latest();
    }

    public int same(int s, int t) {
        Sentence one = sentenceOf(s);
        Sentence other = sentenceOf(t);
        if (one == null || other == null) {
            return UNKNOWN;
        }
        return one.isWrittenLike(other) ? 1 : 0;
    }

    // ---- 3 partings

    public int part(int w, int v) {
        World first = worldOf(w);
        World second = worldOf(v);
        if (first == null || second == null) {
            return UNKNOWN;
        }
        match.begin(first, second);
        if (match.keeperWins(ROUNDS)) {
            return NONE;
        }
        if (sentenceCount >= SENTENCES) {
            return FULL;
        }
        nodes.clear();
        Parting.partAlike(match, nodes, 0);
        return keepSentence();
    }

    // ---- 4 kinds, colours

    public int kinds(int w, int v, int k) {
        World first = worldOf(w);
        World second = worldOf(v);
        if (first == null || second == null) {
            return UNKNOWN;
        }
        if (k < 0 || k > KIND_ROUNDS) {
            return OUTSIDE;
        }
        return sorted.sort(first, second, k, match);
    }

    public int kind(int i) {
        return sorted.kindOf(i);
    }

    public int colour(int w, int v, int by) {
        World first = worldOf(w);
        World second = worldOf(v);
        if (first == null || second == null) {
            return UNKNOWN;
        }
        if (by != 0 && by != 1) {
            return OUTSIDE;
        }
        return colours.settle(first, second, by == 1);
    }

    public int coloured(int i) {
        return colours.colourOf(i);
    }

    public int still(int what) {
        if (what != 0 && what != 1) {
            return OUTSIDE;
        }
        if (colours.items() == 0) {
            return STATE;
        }
        if (what == 0) {
            return colours.steps();
        }
        return colours.balance() ? 1 : 0;
    }

    public int told(int what) {
        if (what == 0) {
            return countWorlds();
        }
        if (what == 1) {
            return sentenceCount;
        }
        if (what == 2) {
            return tape.length();
        }
        if (what == 3) {
            return sorted.items();
        }
        return what == 4 ? colours.items() : OUTSIDE;
    }

    // ---- what the calls share

    /** The place w, whether a world is there or not; null if there is no such place. */
    private World placeOf(int w) {
        return w >= 0 && w < worlds.length ? worlds[w] : null;
    }

    /** The world w; null if it is not there. */
    private World worldOf(int w) {
        World place = placeOf(w);
        return place != null && place.size() > 0 ? place : null;
    }

    private int countWorlds() {
        int there = 0;
        for (int w = 0; w < WORLDS; w++) {
            if (worldOf(w) != null) {
                there++;
            }
        }
        return there;
    }

    private Sentence sentenceOf(int s) {
        return s >= 0 && s < sentenceCount && s < sentences.length ? sentences[s] : null;
    }

    private int keepSentence() {
        int number = sentenceCount;
        if (number < 0 || number >= sentences.length) {
            return FULL;
        }
        int[] kept = nodes.copy();
        sentences[number] = new Sentence(kept, writer.write(kept), nodes.depth());
        sentenceCount++;
        return number;
    }

    /** A place for a world: its things, their marks, and E as a row of bits for each thing; no things: not there. */
    private static final class World {
        private int size = 0;
        private final int[] marks = new int[THINGS];
        private final int[] ties = new int[THINGS];

        int size() {
            return size;
        }

        boolean has(int thing) {
            return thing >= 0 && thing < size && thing < THINGS;
        }

        void makeBare(int things) {
            size = Math.max(0, Math.min(things, THINGS));
            Arrays.fill(marks, 0);
            Arrays.fill(ties, 0);
        }

        void become(World other) {
            size = other.size;
            for (int thing = 0; thing < THINGS; thing++) {
                marks[thing] = other.marks[thing];
                ties[thing] = other.ties[thing];
            }
        }

        void exchange(int a, int b) {
            if (!has(a) || !has(b)) {
                return;
            }
            int marksOfA = marks[a];
            marks[a] = marks[b];
            marks[b] = marksOfA;
            int tiesOfA = ties[a];
            ties[a] = ties[b];
            ties[b] = tiesOfA;
            for (int thing = 0; thing < THINGS; thing++) {
                int row = ties[thing];
                int differ = (row >> a ^ row >> b) & 1;
                ties[thing] = row ^ (differ << a ^ differ << b);
            }
        }

        void append(World other) {
            for (int thing = 0; thing < other.size && size + thing < THINGS; thing++) {
                marks[size + thing] = other.marksOf(thing);
                ties[size + thing] = other.tiesOf(thing) << size;
            }
            size = Math.min(THINGS, size + other.size);
        }

        int marksOf(int thing) {
            return has(thing) ? marks[thing] : 0;
        }

        private int tiesOf(int thing) {
            return has(thing) ? ties[thing] : 0;
        }

        boolean isTied(int a, int b) {
            return has(a) && has(b) && (ties[a] >> b & 1) == 1;
        }

        /** Whether this changed anything. */
        boolean setMark(int thing, int which, boolean is) {
            if (!has(thing)) {
                return false;
            }
            int before = marks[thing];
            marks[thing] = withBit(before, which, is);
            return marks[thing] != before;
        }

        /** Whether this changed anything. */
        boolean setTie(int a, int b, boolean is) {
            if (!has(a) || !has(b)) {
                return false;
            }
            int before = ties[a];
            ties[a] = withBit(before, b, is);
            return ties[a] != before;
        }

        private static int withBit(int bits, int place, boolean is) {
            return is ? bits | 1 << place : bits & ~(1 << place);
        }

        int countMarked(int which) {
            int many = 0;
            for (int thing = 0; thing < size; thing++) {
                many += marksOf(thing) >> which & 1;
            }
            return many;
        }

        int countTies() {
            int many = 0;
            for (int thing = 0; thing < size; thing++) {
                many += Integer.bitCount(tiesOf(thing));
            }
            return many;
        }

        /** Three bits for all that tells whether rows of one thing are alike. */
        int looks(int thing) {
            return has(thing) ? marks[thing] | (ties[thing] >> thing & 1) << 2 : 0;
        }

        /** Three bits for what holds between two things, whatever each is for itself. */
        int bond(int a, int b) {
            if (!has(a) || !has(b)) {
                return 0;
            }
            return (a == b ? 1 : 0) | (ties[a] >> b & 1) << 1 | (ties[b] >> a & 1) << 2;
        }

        boolean holdsAtom(int kind, int a, int b) {
            switch (kind) {
                case 'A':
                    return (marksOf(a) & 1) != 0;
                case 'B':
                    return (marksOf(a) & 2) != 0;
                case 'E':
                    return isTied(a, b);
                case '=':
                    return a == b;
                default:
                    return kind == 'T';
            }
        }
    }

    /** Two worlds as they were when it began, a row of picked things in each, and who wins from there. */
    private static final class Match {
        private final World first = new World();
        private final World second = new World();
        /** What tells things and pairs of things apart, those of the first world and then those of the second. */
        private final int[] looks = new int[2 * THINGS];
        private final int[] bonds = new int[2 * THINGS * THINGS];
        /** The row in the first world, then the one in the second. */
        private final int[] rows = new int[2 * ROUNDS];
        private int length = 0;
        /** For each length of the rows, the types of the things of the first and then of the second world. */
        private final int[] types = new int[ROUNDS * 2 * THINGS];

        void begin(World w, World v) {
            first.become(w);
            second.become(v);
            length = 0;
            lookAt(first, 0);
            lookAt(second, THINGS);
        }

        private void lookAt(World world, int base) {
            for (int a = 0; a < THINGS && base + a < looks.length; a++) {
                looks[base + a] = world.looks(a);
                int row = (base + a) * THINGS;
                for (int b = 0; b < THINGS && row + b < bonds.length; b++) {
                    bonds[row + b] = world.bond(a, b);
                }
            }
        }

        World worldOn(int side) {
            return side == 0 ? first : second;
        }

        int length() {
            return length;
        }

        int rowThing(int side, int place) {
            int at = side * ROUNDS + place;
            return place >= 0 && place < length && at >= 0 && at < rows.length ? rows[at] : 0;
        }

        /** The rows become longer by a thing of that side and one of the other; false if there is no room. */
        boolean lengthen(int side, int thing, int reply) {
            if (length < 0 || length >= ROUNDS) {
                return false;
            }
            rows[length] = side == 0 ? thing : reply;
            rows[ROUNDS + length] = side == 0 ? reply : thing;
            length++;
            return true;
        }

        void shorten() {
            length = Math.max(0, length - 1);
        }

        /** Rows that are alike stay so exactly when the things put behind them are of the same type. */
        private int typeOf(int side, int thing) {
            int at = side * THINGS + thing;
            if (at < 0 || at >= looks.length) {
                return 0;
            }
            int type = looks[at];
            int row = side * ROUNDS;
            for (int place = 0; place < length && row >= 0 && row + place < rows.length; place++) {
                int pair = at * THINGS + rows[row + place];
                if (pair >= 0 && pair < bonds.length) {
                    type |= bonds[pair] << 3 * (place + 1);
                }
            }
            return type;
        }

        boolean staysAlike(int side, int thing, int reply) {
            return typeOf(side, thing) == typeOf(1 - side, reply);
        }

        /** From rows that are alike. */
        private boolean keeperWins(int rounds) {
            if (rounds <= 0 || length < 0 || length >= ROUNDS) {
                return true;
            }
            int base = length * 2 * THINGS;
            fillTypes(base);
            int answered = 0;
            for (int x = 0; x < first.size(); x++) {
                int fitting = fittingReplies(base, x, answered, rounds);
                if (fitting == 0) {
                    return false;
                }
                answered |= fitting;
            }
            return answered == (1 << second.size()) - 1;
        }

        private void fillTypes(int base) {
            for (int x = 0; x < first.size() && base + x < types.length; x++) {
                types[base + x] = typeOf(0, x);
            }
            for (int y = 0; y < second.size() && base + THINGS + y < types.length; y++) {
                types[base + THINGS + y] = typeOf(1, y);
            }
        }

        /**
         * Bits of things of the second world with which the keeper wins against x: all that are not in answered,
         * and of those in answered no more than it takes to have one, since each thing needs but one partner.
         */
        private int fittingReplies(int base, int x, int answered, int rounds) {
            int fitting = 0;
            for (int y = 0; y < second.size(); y++) {
                boolean needed = fitting == 0 || (answered >> y & 1) == 0;
                if (needed && sameType(base + x, base + THINGS + y) && keeperWinsWith(0, x, y, rounds)) {
                    fitting |= 1 << y;
                }
            }
            return fitting;
        }

        private boolean sameType(int i, int j) {
            return i >= 0 && j >= 0 && i < types.length && j < types.length && types[i] == types[j];
        }

        private boolean keeperWinsWith(int side, int thing, int reply, int rounds) {
            if (rounds <= 1 || !lengthen(side, thing, reply)) {
                return true;
            }
            boolean wins = keeperWins(rounds - 1);
            shorten();
            return wins;
        }

        /** The least thing of the other side with which the keeper wins, rounds counting the one that is begun. */
        int leastReply(int side, int thing, int rounds) {
            for (int reply = 0; reply < worldOn(1 - side).size(); reply++) {
                if (staysAlike(side, thing, reply) && keeperWinsWith(side, thing, reply, rounds)) {
                    return reply;
                }
            }
            return NONE;
        }

        /** The first pick with which the seeker wins, the things of the side in front ahead of the others. */
        int firstPick(int front, int rounds) {
            for (int thing = 0; thing < worldOn(front).size(); thing++) {
                if (leastReply(front, thing, rounds) == NONE) {
                    return thing;
                }
            }
            for (int thing = 0; thing < worldOn(1 - front).size(); thing++) {
                if (leastReply(1 - front, thing, rounds) == NONE) {
                    return SECOND_SIDE + thing;
                }
            }
            return NONE;
        }

        /** From rows that are alike: the least number of rounds in which the seeker wins. */
        int leastRounds() {
            for (int rounds = 1; rounds <= ROUNDS - length; rounds++) {
                if (!keeperWins(rounds)) {
                    return rounds;
                }
            }
            return NONE;
        }
    }

    private static final class Play {
        private final Match match = new Match();
        private int stage = NO_PLAY;
        private int rounds = 0;
        private int pickedSide = 0;
        private int pickedThing = 0;

        void begin(World w, World v, int k) {
            match.begin(w, v);
            rounds = k;
            stage = k == 0 ? KEEPER_HAS_WON : SEEKERS_TURN;
        }

        int stage() {
            return stage;
        }

        int roundsLeft() {
            return rounds;
        }

        int seekerPicks(int side, int thing) {
            if (stage != SEEKERS_TURN) {
                return STATE;
            }
            if (side != 0 && side != 1 || !match.worldOn(side).has(thing)) {
                return OUTSIDE;
            }
            pickedSide = side;
            pickedThing = thing;
            stage = KEEPERS_TURN;
            return 1;
        }

        int keeperAnswers(int thing) {
            if (stage != KEEPERS_TURN) {
                return STATE;
            }
            if (!match.worldOn(1 - pickedSide).has(thing)) {
                return OUTSIDE;
            }
            boolean alike = match.staysAlike(pickedSide, pickedThing, thing);
            match.lengthen(pickedSide, pickedThing, thing);
            rounds--;
            if (!alike) {
                stage = SEEKER_HAS_WON;
            } else {
                stage = rounds == 0 ? KEEPER_HAS_WON : SEEKERS_TURN;
            }
            return 1;
        }

        int bestMove() {
            if (stage == SEEKERS_TURN) {
                return match.firstPick(0, rounds);
            }
            return stage == KEEPERS_TURN ? match.leastReply(pickedSide, pickedThing, rounds) : STATE;
        }
    }

    /**
     * A formula as a row of nodes, each ahead of its parts: its sign, the one or two variables
     * (1 for that of the outermost @ or ?), and how many nodes it is with all its parts.
     * Such a row is moved and compared without looking inside.
     */
    private static final class Nodes {
        /** A node takes a byte of the tape at least, and a parting is below the limit of a sentence. */
        private final int[] codes = new int[TAPE_BYTES];
        private int count = 0;

        static int signOf(int code) {
            return code & 255;
        }

        static int firstOf(int code) {
            return code >> 8 & 15;
        }

        static int secondOf(int code) {
            return code >> 12 & 15;
        }

        /** At least 1, so that who goes from part to part comes to an end. */
        static int spanOf(int code) {
            return Math.max(1, code >> 16);
        }

        static boolean isList(int sign) {
            return sign == '&' || sign == '|';
        }

        static boolean isQuantifier(int sign) {
            return sign == '@' || sign == '?';
        }

        private static int encode(int sign, int a, int b) {
            return sign | a << 8 | b << 12 | 1 << 16;
        }

        int count() {
            return count;
        }

        void clear() {
            count = 0;
        }

        /** Where the node stands. */
        int add(int sign, int a, int b) {
            int at = count;
            if (at >= 0 && at < codes.length) {
                codes[at] = encode(sign, a, b);
                count++;
            }
            return at;
        }

        /** A node comes ahead of all that stands from there on. */
        void insert(int at, int sign) {
            if (at < 0 || at > count || count >= codes.length) {
                return;
            }
            System.arraycopy(codes, at, codes, at + 1, count - at);
            codes[at] = encode(sign, 0, 0);
            count++;
        }

        void remove(int at) {
            if (at < 0 || at >= count || count > codes.length) {
                return;
            }
            System.arraycopy(codes, at + 1, codes, at, count - at - 1);
            count--;
        }

        /** All that has come behind the node belongs to it. */
        void close(int at) {
            if (at >= 0 && at < count && at < codes.length) {
                codes[at] = codes[at] & 65535 | count - at << 16;
            }
        }

        void cutTo(int at) {
            count = Math.max(0, Math.min(at, count));
        }

        /** Whether the last part, which begins at last, is like one of those from first on. */
        boolean standsEarlier(int first, int last) {
            if (first < 0 || count > codes.length) {
                return false;
            }
            for (int part = first; part < last && part < count; part += spanOf(codes[part])) {
                if (isLike(part, last)) {
                    return true;
                }
            }
            return false;
        }

        private boolean isLike(int part, int last) {
            int many = count - last;
            if (part < 0 || last < part || part + many > last || count > codes.length) {
                return false;
            }
            for (int i = 0; i < many; i++) {
                if (codes[part + i] != codes[last + i]) {
                    return false;
                }
            }
            return true;
        }

        int[] copy() {
            return Arrays.copyOf(codes, Math.max(0, Math.min(count, codes.length)));
        }

        /** The variable of a quantifier tells how many are around it, so the greatest one is the depth. */
        int depth() {
            int depth = 0;
            for (int at = 0; at < count && at < codes.length; at++) {
                if (isQuantifier(signOf(codes[at]))) {
                    depth = Math.max(depth, firstOf(codes[at]));
                }
            }
            return depth;
        }
    }

    /** The bytes that were fed, and the reading of a formula from them. */
    private static final class Tape {
        private static final int END = -1;

        private final byte[] bytes = new byte[TAPE_BYTES];
        private int length = 0;
        private int position = 0;
        private int wrongAt = -1;
        /** For each letter, which quantifier from outside it belongs to now; 0 for none. */
        private final int[] owners = new int[QUANTIFIERS_AROUND];

        int length() {
            return length;
        }

        void putNumber(int number) {
            for (int shift = 24; shift >= 0 && length >= 0 && length < bytes.length; shift -= 8) {
                bytes[length] = (byte) (number >> shift);
                length++;
            }
        }

        void cutTo(int n) {
            length = Math.max(0, Math.min(n, length));
        }

        /** The place at which the text is wrong, or -1. */
        int parse(Nodes nodes) {
            position = 0;
            wrongAt = -1;
            Arrays.fill(owners, 0);
            parseFormula(nodes, 0, 0);
            expect(END);
            return wrongAt;
        }

        private void parseFormula(Nodes nodes, int signs, int quantifiers) {
            int start = nodes.count();
            parsePart(nodes, signs, quantifiers);
            int between = peek();
            if (wrongAt >= 0 || !Nodes.isList(between)) {
                return;
            }
            nodes.insert(start, between);
            for (int parts = 1; parts < TAPE_BYTES && wrongAt < 0 && peek() == between; parts++) {
                position++;
                parsePart(nodes, signs, quantifiers);
            }
            nodes.close(start);
        }

        private void parsePart(Nodes nodes, int signs, int quantifiers) {
            int sign = peek();
            boolean quantifier = Nodes.isQuantifier(sign);
            if (!quantifier && sign != '-' && sign != '(') {
                parseAtom(nodes, sign);
                return;
            }
            if (signs >= SIGNS_AROUND || quantifier && quantifiers >= QUANTIFIERS_AROUND) {
                fail();
                return;
            }
            position++;
            if (quantifier) {
                parseQuantified(nodes, sign, signs + 1, quantifiers + 1);
            } else if (sign == '-') {
                int at = nodes.add('-', 0, 0);
                parsePart(nodes, signs + 1, quantifiers);
                nodes.close(at);
            } else {
                parseFormula(nodes, signs + 1, quantifiers);
                expect(')');
            }
        }

        private void parseQuantified(Nodes nodes, int sign, int signs, int quantifiers) {
            int letter = peek() - 'a';
            if (letter < 0 || letter >= owners.length) {
                fail();
                return;
            }
            position++;
            int around = owners[letter];
            owners[letter] = quantifiers;
            int at = nodes.add(sign, quantifiers, 0);
            parsePart(nodes, signs, quantifiers);
            nodes.close(at);
            owners[letter] = around;
        }

        private void parseAtom(Nodes nodes, int sign) {
            boolean two = sign == 'E' || sign == '=';
            boolean one = sign == 'A' || sign == 'B';
            if (!two && !one && sign != 'T' && sign != 'F') {
                fail();
                return;
            }
            position++;
            int a = two || one ? parseOwner() : 0;
            int b = two ? parseOwner() : 0;
            nodes.add(sign, a, b);
        }

        /** Which quantifier the variable that comes next belongs to. */
        private int parseOwner() {
            int letter = peek() - 'a';
            if (letter < 0 || letter >= owners.length || owners[letter] == 0) {
                fail();
                return 0;
            }
            position++;
            return owners[letter];
        }

        private void expect(int sign) {
            if (peek() != sign) {
                fail();
            } else if (sign != END) {
                position++;
            }
        }

        /** The text is wrong where it first was. */
        private void fail() {
            if (wrongAt < 0) {
                wrongAt = position;
            }
        }

        /** The next byte that is no blank; the position comes to it. */
        private int peek() {
            while (position >= 0 && position < length && position < bytes.length) {
                int next = bytes[position] & 255;
                if (next != ' ' && next != '\n') {
                    return next;
                }
                position++;
            }
            return END;
        }
    }

    private static final class Sentence {
        private final int[] nodes;
        private final byte[] text;
        private final int depth;

        Sentence(int[] nodes, byte[] text, int depth) {
            this.nodes = nodes;
            this.text = text;
            this.depth = depth;
        }

        int[] nodes() {
            return nodes;
        }

        byte[] text() {
            return text;
        }

        int depth() {
            return depth;
        }

        boolean isWrittenLike(Sentence other) {
            if (text.length != other.text.length) {
                return false;
            }
            for (int i = 0; i < text.length; i++) {
                if (text[i] != other.text[i]) {
                    return false;
                }
            }
            return true;
        }
    }

    /** Writes formulas as texts; its room is used again for each. */
    private static final class Writer {
        private final byte[] room = new byte[TEXT_BYTES];
        private int length = 0;

        byte[] write(int[] nodes) {
            length = 0;
            writeFrom(nodes, 0, false, 0);
            return Arrays.copyOf(room, Math.max(0, Math.min(length, room.length)));
        }

        private void writeFrom(int[] nodes, int at, boolean isPart, int deep) {
            if (at < 0 || at >= nodes.length || deep > DEEPEST) {
                return;
            }
            int sign = Nodes.signOf(nodes[at]);
            if (Nodes.isList(sign)) {
                writeList(nodes, at, isPart, deep);
                return;
            }
            put(sign);
            putVariable(Nodes.firstOf(nodes[at]));
            putVariable(Nodes.secondOf(nodes[at]));
            if (sign == '-' || Nodes.isQuantifier(sign)) {
                writeFrom(nodes, at + 1, true, deep + 1);
            }
        }

        private void writeList(int[] nodes, int at, boolean isPart, int deep) {
            if (at < 0 || at >= nodes.length) {
                return;
            }
            int sign = Nodes.signOf(nodes[at]);
            int end = Math.min(nodes.length, at + Nodes.spanOf(nodes[at]));
            if (isPart) {
                put('(');
            }
            for (int part = at + 1; part < end; part += Nodes.spanOf(nodes[part])) {
                if (part > at + 1) {
                    put(sign);
                }
                writeFrom(nodes, part, true, deep + 1);
            }
            if (isPart) {
                put(')');
            }
        }

        private void putVariable(int owner) {
            if (owner > 0) {
                put('a' + owner - 1);
            }
        }

        private void put(int sign) {
            if (length >= 0 && length < room.length) {
                room[length] = (byte) sign;
                length++;
            }
        }
    }

    /** Tests formulas in worlds, and counts what is asked. */
    private static final class Asker {
        private final int[] things = new int[QUANTIFIERS_AROUND + 1];
        private int asked = 0;
        private int latest = 0;

        int latest() {
            return latest;
        }

        int test(int[] nodes, World world) {
            asked = 0;
            boolean is = ask(nodes, world, 0, 0);
            if (isSpent()) {
                return SPENT;
            }
            latest = asked;
            return is ? 1 : 0;
        }

        private boolean isSpent() {
            return asked > ASKED_MOST;
        }

        private boolean ask(int[] nodes, World world, int at, int deep) {
            asked++;
            if (isSpent() || at < 0 || at >= nodes.length || deep > DEEPEST) {
                return false;
            }
            int code = nodes[at];
            int sign = Nodes.signOf(code);
            if (sign == '-') {
                return !ask(nodes, world, at + 1, deep + 1);
            }
            if (Nodes.isList(sign)) {
                return askParts(nodes, world, at, deep, sign == '|');
            }
            if (Nodes.isQuantifier(sign)) {
                return askThings(nodes, world, at, deep, sign == '?');
            }
            return world.holdsAtom(sign, thingOf(Nodes.firstOf(code)), thingOf(Nodes.secondOf(code)));
        }

        /** Whether one of the parts answers as sought, which ends the asking: true ends |, false ends &. */
        private boolean askParts(int[] nodes, World world, int at, int deep, boolean sought) {
            if (at < 0 || at >= nodes.length) {
                return false;
            }
            int end = Math.min(nodes.length, at + Nodes.spanOf(nodes[at]));
            for (int part = at + 1; part < end && !isSpent(); part += Nodes.spanOf(nodes[part])) {
                if (ask(nodes, world, part, deep + 1) == sought) {
                    return sought;
                }
            }
            return !sought;
        }

        private boolean askThings(int[] nodes, World world, int at, int deep, boolean sought) {
            int owner = at >= 0 && at < nodes.length ? Nodes.firstOf(nodes[at]) : 0;
            if (owner >= things.length) {
                return false;
            }
            for (int thing = 0; thing < world.size() && !isSpent(); thing++) {
                things[owner] = thing;
                if (ask(nodes, world, at + 1, deep + 1) == sought) {
                    return sought;
                }
            }
            return !sought;
        }

        private int thingOf(int owner) {
            return owner >= 0 && owner < things.length ? things[owner] : 0;
        }
    }

    /** Makes the formula that parts the rows of a match; the side in front is the one of which it holds. */
    private static final class Parting {
        /** Of rows that are alike, and with which the seeker wins in the rounds for which there is room. */
        private static void partAlike(Match match, Nodes nodes, int front) {
            int rounds = match.leastRounds();
            int choice = rounds == NONE ? NONE : match.firstPick(front, rounds);
            if (choice < 0) {
                return;
            }
            boolean inFront = choice < SECOND_SIDE;
            int side = inFront ? front : 1 - front;
            int outermost = nodes.count();
            if (!inFront) {
                nodes.add('-', 0, 0);
            }
            int some = nodes.add('?', match.length() + 1, 0);
            partReplies(match, nodes, side, inFront ? choice : choice - SECOND_SIDE);
            nodes.close(some);
            nodes.close(outermost);
        }

        private static void partReplies(Match match, Nodes nodes, int side, int thing) {
            int list = nodes.add('&', 0, 0);
            int parts = 0;
            int replies = match.worldOn(1 - side).size();
            for (int reply = 0; reply < replies; reply++) {
                int last = nodes.count();
                boolean alike = match.staysAlike(side, thing, reply);
                boolean longer = match.lengthen(side, thing, reply);
                if (longer && alike) {
                    partAlike(match, nodes, side);
                } else if (longer) {
                    partByAtom(match, nodes, side);
                }
                if (longer) {
                    match.shorten();
                }
                if (nodes.standsEarlier(list + 1, last)) {
                    nodes.cutTo(last);
                } else {
                    parts++;
                }
            }
            if (parts == 1) {
                nodes.remove(list);
            } else {
                nodes.close(list);
            }
        }

        /** The rows were alike without their last things, so only atoms with these can part them. */
        private static void partByAtom(Match match, Nodes nodes, int front) {
            int m = match.length();
            boolean found = false;
            for (int n = 1; n < m && !found; n++) {
                found = addIfParting(match, nodes, front, '=', n, m);
            }
            found = found || addIfParting(match, nodes, front, 'A', m, 0);
            found = found || addIfParting(match, nodes, front, 'B', m, 0);
            for (int n = 1; n <= m && !found; n++) {
                found = addIfParting(match, nodes, front, 'E', n, m)
                        || addIfParting(match, nodes, front, 'E', m, n);
            }
        }

        private static boolean addIfParting(Match match, Nodes nodes, int front, int sign, int a, int b) {
            boolean ofFront = match.worldOn(front)
                    .holdsAtom(sign, match.rowThing(front, a - 1), match.rowThing(front, b - 1));
            boolean ofOther = match.worldOn(1 - front)
                    .holdsAtom(sign, match.rowThing(1 - front, a - 1), match.rowThing(1 - front, b - 1));
            if (ofFront == ofOther) {
                return false;
            }
            int not = nodes.count();
            if (!ofFront) {
                nodes.add('-', 0, 0);
            }
            nodes.add(sign, a, b);
            nodes.close(not);
            return true;
        }
    }

    private static final class Kinds {
        private final int[] kinds = new int[2 * THINGS];
        /** For each kind, the first thing that is of it. */
        private final int[] examples = new int[2 * THINGS];
        private int items = 0;

        int items() {
            return items;
        }

        int kindOf(int i) {
            return i >= 0 && i < items && i < kinds.length ? kinds[i] : UNKNOWN;
        }

        int sort(World first, World second, int rounds, Match match) {
            items = Math.min(kinds.length, first.size() + second.size());
            int found = 0;
            for (int i = 0; i < items; i++) {
                int kind = 0;
                while (kind < found && !isLikeExample(first, second, kind, i, rounds, match)) {
                    kind++;
                }
                if (kind == found && found < examples.length) {
                    examples[found] = i;
                    found++;
                }
                kinds[i] = kind;
            }
            return found;
        }

        private boolean isLikeExample(World first, World second, int kind, int i, int rounds, Match match) {
            int example = kind >= 0 && kind < examples.length ? examples[kind] : 0;
            int split = first.size();
            boolean exampleInFirst = example < split;
            boolean inFirst = i < split;
            match.begin(exampleInFirst ? first : second, inFirst ? first : second);
            int x = exampleInFirst ? example : example - split;
            int y = inFirst ? i : i - split;
            return match.staysAlike(0, x, y) && match.lengthen(0, x, y) && match.keeperWins(rounds);
        }
    }

    /** Colours of the things of two worlds, or of their pairs of things, made finer till all is still. */
    private static final class Colours {
        private final int[] colours = new int[PAIRS_OF_BOTH];
        private final int[] finer = new int[PAIRS_OF_BOTH];
        /** For each thing or pair, what it must have in common with another one to stay of one colour with it. */
        private final long[] signatures = new long[SIGNATURE * PAIRS_OF_BOTH];
        private final int[] surplus = new int[PAIRS_OF_BOTH];
        private int items = 0;
        private int split = 0;
        private int found = 0;
        private int steps = 0;

        int items() {
            return items;
        }

        int steps() {
            return steps;
        }

        int colourOf(int i) {
            return i >= 0 && i < items ? colourAt(i) : UNKNOWN;
        }

        private int colourAt(int i) {
            return i >= 0 && i < colours.length ? colours[i] : 0;
        }

        int settle(World first, World second, boolean byTwo) {
            split = byTwo ? first.size() * first.size() : first.size();
            items = split + (byTwo ? second.size() * second.size() : second.size());
            steps = 0;
            Arrays.fill(colours, 0);
            Arrays.fill(signatures, 0L);
            lookAt(first, 0, byTwo);
            lookAt(second, split, byTwo);
            regroup();
            for (int step = 0; step < PAIRS_OF_BOTH; step++) {
                int before = found;
                Arrays.fill(signatures, 0L);
                sign(first, 0, byTwo);
                sign(second, split, byTwo);
                regroup();
                if (found == before) {
                    break;
                }
                steps++;
            }
            return found;
        }

        private void lookAt(World world, int base, boolean byTwo) {
            int n = world.size();
            for (int a = 0; a < n; a++) {
                if (!byTwo) {
                    add(base + a, 0, world.looks(a));
                }
                for (int b = 0; byTwo && b < n; b++) {
                    add(base + a * n + b, 0, world.looks(a) | world.looks(b) << 3 | world.bond(a, b) << 6);
                }
            }
        }

        private void sign(World world, int base, boolean byTwo) {
            int n = world.size();
            for (int a = 0; a < n; a++) {
                if (!byTwo) {
                    countTies(world, base, a);
                }
                for (int b = 0; byTwo && b < n; b++) {
                    gatherColours(base, n, a, b);
                }
            }
        }

        /** Four bits for each of at most twelve colours hold a count of at most six. */
        private void countTies(World world, int base, int a) {
            for (int x = 0; x < world.size(); x++) {
                long one = 1L << 4 * colourAt(base + x);
                if (world.isTied(a, x)) {
                    add(base + a, 0, one);
                }
                if (world.isTied(x, a)) {
                    add(base + a, 1, one);
                }
            }
        }

        /** A bit for each of at most 72 colours: two numbers for those of (x, b), two for those of (a, x). */
        private void gatherColours(int base, int n, int a, int b) {
            int item = base + a * n + b;
            for (int x = 0; x < n; x++) {
                putInSet(item, 0, colourAt(base + x * n + b));
                putInSet(item, 2, colourAt(base + a * n + x));
            }
        }

        private void putInSet(int item, int which, int colour) {
            int at = SIGNATURE * item + which + (colour >> 6);
            if (at >= 0 && at < signatures.length) {
                signatures[at] |= 1L << (colour & 63);
            }
        }

        private void add(int item, int which, long amount) {
            int at = SIGNATURE * item + which;
            if (at >= 0 && at < signatures.length) {
                signatures[at] += amount;
            }
        }

        private void regroup() {
            found = 0;
            for (int i = 0; i < items && i < finer.length; i++) {
                int like = firstLike(i);
                if (like >= 0 && like < i) {
                    finer[i] = finer[like];
                } else {
                    finer[i] = found;
                    found++;
                }
            }
            System.arraycopy(finer, 0, colours, 0, colours.length);
        }

        /** The first one that stays of one colour with i: at the latest, i itself. */
        private int firstLike(int i) {
            for (int j = 0; j < i; j++) {
                if (colourAt(j) == colourAt(i) && haveSameSignature(j, i)) {
                    return j;
                }
            }
            return i;
        }

        private boolean haveSameSignature(int i, int j) {
            int ofI = SIGNATURE * i;
            int ofJ = SIGNATURE * j;
            if (ofI < 0 || ofJ < 0 || Math.max(ofI, ofJ) + SIGNATURE > signatures.length) {
                return false;
            }
            for (int which = 0; which < SIGNATURE; which++) {
                if (signatures[ofI + which] != signatures[ofJ + which]) {
                    return false;
                }
            }
            return true;
        }

        boolean balance() {
            Arrays.fill(surplus, 0);
            for (int i = 0; i < items; i++) {
                int colour = colourAt(i);
                if (colour >= 0 && colour < surplus.length) {
                    surplus[colour] += i < split ? 1 : -1;
                }
            }
            for (int colour = 0; colour < surplus.length; colour++) {
                if (surplus[colour] != 0) {
                    return false;
                }
            }
            return true;
        }
    }
}
