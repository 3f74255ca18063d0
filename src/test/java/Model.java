import java.util.ArrayList;
import java.util.Arrays;
import java.util.HashMap;
import java.util.HashSet;
import java.util.LinkedHashMap;
import java.util.LinkedHashSet;
import java.util.List;
import java.util.Map;
import java.util.Set;
import java.util.TreeMap;
import java.util.TreeSet;

/**
 * The document's words once more, as plainly as they stand and with no care for time or room:
 * what the class answers is held against this. It shares nothing with the class.
 */
final class Model {
    static final int UNKNOWN = -1, OUTSIDE = -2, STATE = -3, FULL = -4, SPENT = -6, NONE = -9;

    static final class W {
        final int n;
        final boolean[] a;
        final boolean[] b;
        final boolean[][] e;

        W(int n) {
            this.n = n;
            a = new boolean[n];
            b = new boolean[n];
            e = new boolean[n][n];
        }

        W renamed(int[] to) {
            W w = new W(n);
            for (int i = 0; i < n; i++) {
                w.a[to[i]] = a[i];
                w.b[to[i]] = b[i];
                for (int j = 0; j < n; j++) {
                    w.e[to[i]][to[j]] = e[i][j];
                }
            }
            return w;
        }

        W copy() {
            int[] to = new int[n];
            for (int i = 0; i < n; i++) {
                to[i] = i;
            }
            return renamed(to);
        }
    }

    /** A formula: its sign, its variables by name as m-th quantifier from outside, its parts. */
    static final class F {
        final char sign;
        final int[] variables;
        final List<F> parts = new ArrayList<>();

        F(char sign, int... variables) {
            this.sign = sign;
            this.variables = variables;
        }

        F with(F... more) {
            parts.addAll(Arrays.asList(more));
            return this;
        }

        int depth() {
            int depth = 0;
            for (F part : parts) {
                depth = Math.max(depth, part.depth());
            }
            return sign == '@' || sign == '?' ? depth + 1 : depth;
        }

        int nodes() {
            int nodes = 1;
            for (F part : parts) {
                nodes += part.nodes();
            }
            return nodes;
        }

        String text() {
            StringBuilder text = new StringBuilder();
            if (sign == '&' || sign == '|') {
                for (F part : parts) {
                    text.append(text.length() == 0 ? "" : sign).append(part.inner());
                }
                return text.toString();
            }
            text.append(sign);
            for (int variable : variables) {
                text.append("?abcdefgh".charAt(variable));
            }
            for (F part : parts) {
                text.append(part.inner());
            }
            return text.toString();
        }

        private String inner() {
            return sign == '&' || sign == '|' ? "(" + text() + ")" : text();
        }
    }

    private static final class Wrong extends Exception {
        private static final long serialVersionUID = 1L;
        final int place;

        Wrong(int place) {
            this.place = place;
        }
    }

    private static final class TooMany extends Exception {
        private static final long serialVersionUID = 1L;
    }

    private final Map<Integer, W> worlds = new HashMap<>();
    private final List<F> sentences = new ArrayList<>();
    private String tape = "";
    private int latestAsked = 0;
    private List<Integer> kindsOf = new ArrayList<>();
    private List<Integer> coloursOf = null;
    private int coloursOfFirst;
    private int parted;
    private W playFirst = null;
    private W playSecond;
    private int playLeft;
    private List<Integer> playRow;
    private List<Integer> playOtherRow;
    private int pickedSide = -1;
    private int pickedThing;

    // ---- 1 worlds

    private boolean thing(int w, int thing) {
        return worlds.containsKey(w) && thing >= 0 && thing < worlds.get(w).n;
    }

    int world(int w, int n) {
        if (w < 0 || w > 5) {
            return UNKNOWN;
        }
        if (n < 1 || n > 6) {
            return OUTSIDE;
        }
        worlds.put(w, new W(n));
        return n;
    }

    int mark(int w, int thing, int which, boolean is) {
        if (!thing(w, thing)) {
            return UNKNOWN;
        }
        if (which < 0 || which > 1) {
            return OUTSIDE;
        }
        boolean[] marks = which == 0 ? worlds.get(w).a : worlds.get(w).b;
        boolean was = marks[thing];
        marks[thing] = is;
        return was == is ? 0 : 1;
    }

    int tie(int w, int a, int b, boolean is) {
        if (!thing(w, a) || !thing(w, b)) {
            return UNKNOWN;
        }
        boolean was = worlds.get(w).e[a][b];
        worlds.get(w).e[a][b] = is;
        return was == is ? 0 : 1;
    }

    int turn(int w, int a, int b, int v) {
        if (!thing(w, a) || !thing(w, b) || v < 0 || v > 5) {
            return UNKNOWN;
        }
        int[] to = new int[worlds.get(w).n];
        for (int i = 0; i < to.length; i++) {
            to[i] = i == a ? b : i == b ? a : i;
        }
        worlds.put(v, worlds.get(w).renamed(to));
        return 1;
    }

    int join(int w, int v, int x) {
        if (!worlds.containsKey(w) || !worlds.containsKey(v) || x < 0 || x > 5) {
            return UNKNOWN;
        }
        W one = worlds.get(w);
        W two = worlds.get(v);
        if (one.n + two.n > 6) {
            return OUTSIDE;
        }
        W both = new W(one.n + two.n);
        for (int i = 0; i < both.n; i++) {
            boolean inOne = i < one.n;
            both.a[i] = inOne ? one.a[i] : two.a[i - one.n];
            both.b[i] = inOne ? one.b[i] : two.b[i - one.n];
            for (int j = 0; j < both.n; j++) {
                if (inOne == j < one.n) {
                    both.e[i][j] = inOne ? one.e[i][j] : two.e[i - one.n][j - one.n];
                }
            }
        }
        worlds.put(x, both);
        return both.n;
    }

    int about(int w, int what) {
        if (!worlds.containsKey(w)) {
            return UNKNOWN;
        }
        W it = worlds.get(w);
        int[] many = {it.n, 0, 0, 0};
        for (int i = 0; i < it.n; i++) {
            many[1] += it.a[i] ? 1 : 0;
            many[2] += it.b[i] ? 1 : 0;
            for (int j = 0; j < it.n; j++) {
                many[3] += it.e[i][j] ? 1 : 0;
            }
        }
        if (what >= 0 && what <= 3) {
            return many[what];
        }
        return what >= 10 && what - 10 < it.n ? (it.a[what - 10] ? 1 : 0) + (it.b[what - 10] ? 2 : 0) : OUTSIDE;
    }

    int tied(int w, int a, int b) {
        return !thing(w, a) || !thing(w, b) ? UNKNOWN : worlds.get(w).e[a][b] ? 1 : 0;
    }

    // ---- 1 the game

    static boolean alike(W w, List<Integer> r, W v, List<Integer> s) {
        for (int i = 0; i < r.size(); i++) {
            if (w.a[r.get(i)] != v.a[s.get(i)] || w.b[r.get(i)] != v.b[s.get(i)]) {
                return false;
            }
            for (int j = 0; j < r.size(); j++) {
                if (w.e[r.get(i)][r.get(j)] != v.e[s.get(i)][s.get(j)]
                        || r.get(i).equals(r.get(j)) != s.get(i).equals(s.get(j))) {
                    return false;
                }
            }
        }
        return true;
    }

    static List<Integer> longer(List<Integer> row, int thing) {
        List<Integer> more = new ArrayList<>(row);
        more.add(thing);
        return more;
    }

    static boolean seekerWins(W w, List<Integer> r, W v, List<Integer> s, int k) {
        if (!alike(w, r, v, s)) {
            return true;
        }
        if (k == 0) {
            return false;
        }
        for (int x = 0; x < w.n; x++) {
            if (pickWins(w, r, v, s, x, k)) {
                return true;
            }
        }
        for (int y = 0; y < v.n; y++) {
            if (pickWins(v, s, w, r, y, k)) {
                return true;
            }
        }
        return false;
    }

    /** Whether the seeker wins by picking thing x of the world named first. */
    static boolean pickWins(W w, List<Integer> r, W v, List<Integer> s, int x, int k) {
        for (int y = 0; y < v.n; y++) {
            if (!seekerWins(w, longer(r, x), v, longer(s, y), k - 1)) {
                return false;
            }
        }
        return true;
    }

    int game(int w, int v, int k) {
        if (!worlds.containsKey(w) || !worlds.containsKey(v)) {
            return UNKNOWN;
        }
        if (k < 0 || k > 3) {
            return OUTSIDE;
        }
        return seekerWins(worlds.get(w), List.of(), worlds.get(v), List.of(), k) ? 0 : 1;
    }

    int rank(int w, int v) {
        if (!worlds.containsKey(w) || !worlds.containsKey(v)) {
            return UNKNOWN;
        }
        for (int k = 1; k <= 3; k++) {
            if (game(w, v, k) == 0) {
                return k;
            }
        }
        return NONE;
    }

    int play(int w, int v, int k) {
        if (!worlds.containsKey(w) || !worlds.containsKey(v)) {
            return UNKNOWN;
        }
        if (k < 0 || k > 3) {
            return OUTSIDE;
        }
        playFirst = worlds.get(w).copy();
        playSecond = worlds.get(v).copy();
        playLeft = k;
        playRow = List.of();
        playOtherRow = List.of();
        pickedSide = -1;
        return 1;
    }

    int state() {
        if (playFirst == null) {
            return 0;
        }
        if (pickedSide >= 0) {
            return 2;
        }
        if (!alike(playFirst, playRow, playSecond, playOtherRow)) {
            return 4;
        }
        return playLeft == 0 ? 3 : 1;
    }

    int pick(int side, int thing) {
        if (state() != 1) {
            return STATE;
        }
        if (side < 0 || side > 1 || thing < 0 || thing >= (side == 0 ? playFirst : playSecond).n) {
            return OUTSIDE;
        }
        pickedSide = side;
        pickedThing = thing;
        return 1;
    }

    int answer(int thing) {
        if (state() != 2) {
            return STATE;
        }
        if (thing < 0 || thing >= (pickedSide == 0 ? playSecond : playFirst).n) {
            return OUTSIDE;
        }
        playRow = longer(playRow, pickedSide == 0 ? pickedThing : thing);
        playOtherRow = longer(playOtherRow, pickedSide == 0 ? thing : pickedThing);
        pickedSide = -1;
        playLeft--;
        return 1;
    }

    int best() {
        int state = state();
        if (state == 1) {
            for (int code = 0; code < 20; code++) {
                boolean first = code < 10;
                if (first && code < playFirst.n
                        && pickWins(playFirst, playRow, playSecond, playOtherRow, code, playLeft)) {
                    return code;
                }
                if (!first && code - 10 < playSecond.n
                        && pickWins(playSecond, playOtherRow, playFirst, playRow, code - 10, playLeft)) {
                    return code;
                }
            }
            return NONE;
        }
        if (state != 2) {
            return STATE;
        }
        for (int thing = 0; thing < (pickedSide == 0 ? playSecond : playFirst).n; thing++) {
            int x = pickedSide == 0 ? pickedThing : thing;
            int y = pickedSide == 0 ? thing : pickedThing;
            if (!seekerWins(playFirst, longer(playRow, x), playSecond, longer(playOtherRow, y), playLeft - 1)) {
                return thing;
            }
        }
        return NONE;
    }

    int left() {
        return state() == 0 ? STATE : playLeft;
    }

    // ---- 2 sentences

    int feed(int... numbers) {
        if (tape.length() + 20 > 800) {
            return FULL;
        }
        StringBuilder more = new StringBuilder(tape);
        for (int number : numbers) {
            more.append((char) (number >>> 24)).append((char) (number >>> 16 & 255));
            more.append((char) (number >>> 8 & 255)).append((char) (number & 255));
        }
        tape = more.toString();
        return tape.length();
    }

    int trim(int n) {
        if (n < 0 || n > tape.length()) {
            return OUTSIDE;
        }
        tape = tape.substring(0, n);
        return n;
    }

    /** Bytes that are no blanks, with their places, and the end behind them; read from the front on. */
    private static final class Text {
        final List<Integer> signs = new ArrayList<>();
        final List<Integer> places = new ArrayList<>();
        int at = 0;

        Text(String bytes) {
            for (int i = 0; i < bytes.length(); i++) {
                if (bytes.charAt(i) != 32 && bytes.charAt(i) != 10) {
                    signs.add((int) bytes.charAt(i));
                    places.add(i);
                }
            }
            signs.add(-1);
            places.add(bytes.length());
        }

        int next() {
            return signs.get(at);
        }

        Wrong wrong() {
            return new Wrong(places.get(at));
        }

        F formula(String around, String bound) throws Wrong {
            List<F> parts = new ArrayList<>();
            parts.add(part(around, bound));
            int between = next();
            if (between != '&' && between != '|') {
                return parts.get(0);
            }
            while (next() == between) {
                at++;
                parts.add(part(around, bound));
            }
            return new F((char) between).with(parts.toArray(new F[0]));
        }

        /** around: the signs -, @, ?, ( around this; bound: the letters of the @ and ? of these. */
        F part(String around, String bound) throws Wrong {
            int sign = next();
            if (sign < 0 || "-@?(ABE=TF".indexOf(sign) < 0) {
                throw wrong();
            }
            if ("-@?(".indexOf(sign) >= 0 && around.length() == 12) {
                throw wrong();
            }
            if ("@?".indexOf(sign) >= 0 && bound.length() == 8) {
                throw wrong();
            }
            at++;
            String more = around + (char) sign;
            switch (sign) {
                case '-':
                    return new F('-').with(part(more, bound));
                case '(':
                    F inside = formula(more, bound);
                    if (next() != ')') {
                        throw wrong();
                    }
                    at++;
                    return inside;
                case '@':
                case '?':
                    if (next() < 'a' || next() > 'h') {
                        throw wrong();
                    }
                    String letters = bound + (char) next();
                    at++;
                    return new F((char) sign, letters.length()).with(part(more, letters));
                case 'A':
                case 'B':
                    return new F((char) sign, variable(bound));
                case 'E':
                case '=':
                    int one = variable(bound);
                    return new F((char) sign, one, variable(bound));
                default:
                    return new F((char) sign);
            }
        }

        int variable(String bound) throws Wrong {
            int place = next() < 'a' || next() > 'h' ? -1 : bound.lastIndexOf(next());
            if (place < 0) {
                throw wrong();
            }
            at++;
            return place + 1;
        }
    }

    int read() {
        Text text = new Text(tape);
        tape = "";
        try {
            F formula = text.formula("", "");
            if (text.next() != -1) {
                throw text.wrong();
            }
            if (formula.nodes() > 600 || sentences.size() == 20) {
                return FULL;
            }
            sentences.add(formula);
            return sentences.size() - 1;
        } catch (Wrong wrong) {
            return -20 - wrong.place;
        }
    }

    private boolean known(int s) {
        return s >= 0 && s < sentences.size();
    }

    int sentence(int s, int what) {
        if (!known(s)) {
            return UNKNOWN;
        }
        F it = sentences.get(s);
        return what == 0 ? it.depth() : what == 1 ? it.nodes() : what == 2 ? it.text().length() : OUTSIDE;
    }

    int written(int s, int i) {
        return !known(s) || i < 0 || i >= sentences.get(s).text().length() ? UNKNOWN : sentences.get(s).text().charAt(i);
    }

    private int asking;

    private boolean ask(F f, W w, Map<Integer, Integer> of) throws TooMany {
        asking++;
        if (asking > 100000) {
            throw new TooMany();
        }
        switch (f.sign) {
            case 'T':
                return true;
            case 'F':
                return false;
            case 'A':
                return w.a[of.get(f.variables[0])];
            case 'B':
                return w.b[of.get(f.variables[0])];
            case 'E':
                return w.e[of.get(f.variables[0])][of.get(f.variables[1])];
            case '=':
                return of.get(f.variables[0]).equals(of.get(f.variables[1]));
            case '-':
                return !ask(f.parts.get(0), w, of);
            case '&':
                for (F part : f.parts) {
                    if (!ask(part, w, of)) {
                        return false;
                    }
                }
                return true;
            case '|':
                for (F part : f.parts) {
                    if (ask(part, w, of)) {
                        return true;
                    }
                }
                return false;
            default:
                for (int thing = 0; thing < w.n; thing++) {
                    of.put(f.variables[0], thing);
                    boolean is = ask(f.parts.get(0), w, of);
                    if (f.sign == '@' && !is) {
                        return false;
                    }
                    if (f.sign == '?' && is) {
                        return true;
                    }
                }
                return f.sign == '@';
        }
    }

    int holds(int s, int w) {
        if (!known(s) || !worlds.containsKey(w)) {
            return UNKNOWN;
        }
        asking = 0;
        try {
            boolean is = ask(sentences.get(s), worlds.get(w), new HashMap<>());
            latestAsked = asking;
            return is ? 1 : 0;
        } catch (TooMany many) {
            return SPENT;
        }
    }

    int asked() {
        return latestAsked;
    }

    int same(int s, int t) {
        return !known(s) || !known(t) ? UNKNOWN : sentences.get(s).text().equals(sentences.get(t).text()) ? 1 : 0;
    }

    // ---- 3 partings

    private static boolean atomHolds(F atom, W w, List<Integer> row) {
        int one = row.get(atom.variables[0] - 1);
        int two = row.get(atom.variables[atom.variables.length - 1] - 1);
        return atom.sign == 'A' ? w.a[one] : atom.sign == 'B' ? w.b[one] : atom.sign == 'E' ? w.e[one][two] : one == two;
    }

    private static F partingOf(W w, List<Integer> r, W v, List<Integer> s) {
        if (!alike(w, r, v, s)) {
            List<F> atoms = new ArrayList<>();
            for (int m = 1; m <= r.size(); m++) {
                for (int n = 1; n < m; n++) {
                    atoms.add(new F('=', n, m));
                }
                atoms.add(new F('A', m));
                atoms.add(new F('B', m));
                for (int n = 1; n <= m; n++) {
                    atoms.add(new F('E', n, m));
                    if (n < m) {
                        atoms.add(new F('E', m, n));
                    }
                }
            }
            for (F atom : atoms) {
                if (atomHolds(atom, w, r) != atomHolds(atom, v, s)) {
                    return atomHolds(atom, w, r) ? atom : new F('-').with(atom);
                }
            }
            throw new IllegalStateException();
        }
        int k = 1;
        while (!seekerWins(w, r, v, s, k)) {
            k++;
        }
        for (int x = 0; x < w.n; x++) {
            if (pickWins(w, r, v, s, x, k)) {
                return thereIs(w, r, v, s, x);
            }
        }
        for (int y = 0; y < v.n; y++) {
            if (pickWins(v, s, w, r, y, k)) {
                return new F('-').with(thereIs(v, s, w, r, y));
            }
        }
        throw new IllegalStateException();
    }

    private static F thereIs(W w, List<Integer> r, W v, List<Integer> s, int x) {
        Map<String, F> parts = new LinkedHashMap<>();
        for (int y = 0; y < v.n; y++) {
            F part = partingOf(w, longer(r, x), v, longer(s, y));
            parts.putIfAbsent(part.text(), part);
        }
        F all = new F('&').with(parts.values().toArray(new F[0]));
        return new F('?', r.size() + 1).with(parts.size() == 1 ? all.parts.get(0) : all);
    }

    int part(int w, int v) {
        int rank = rank(w, v);
        if (rank < 0) {
            return rank;
        }
        if (sentences.size() == 20) {
            return FULL;
        }
        sentences.add(partingOf(worlds.get(w), List.of(), worlds.get(v), List.of()));
        return sentences.size() - 1;
    }

    // ---- 4 kinds, colours

    int kinds(int w, int v, int k) {
        if (!worlds.containsKey(w) || !worlds.containsKey(v)) {
            return UNKNOWN;
        }
        if (k < 0 || k > 2) {
            return OUTSIDE;
        }
        List<W> where = new ArrayList<>();
        List<Integer> thing = new ArrayList<>();
        for (W it : List.of(worlds.get(w), worlds.get(v))) {
            for (int i = 0; i < it.n; i++) {
                where.add(it);
                thing.add(i);
            }
        }
        kindsOf = new ArrayList<>();
        int many = 0;
        for (int i = 0; i < thing.size(); i++) {
            int kind = -1;
            for (int j = 0; j < i && kind < 0; j++) {
                if (!seekerWins(where.get(i), List.of(thing.get(i)), where.get(j), List.of(thing.get(j)), k)) {
                    kind = kindsOf.get(j);
                }
            }
            kindsOf.add(kind < 0 ? many++ : kind);
        }
        return many;
    }

    int kind(int i) {
        return i < 0 || i >= kindsOf.size() ? UNKNOWN : kindsOf.get(i);
    }

    private static List<Integer> numbered(List<String> names) {
        List<String> seen = new ArrayList<>(new LinkedHashSet<>(names));
        List<Integer> numbers = new ArrayList<>();
        for (String name : names) {
            numbers.add(seen.indexOf(name));
        }
        return numbers;
    }

    private static int different(List<Integer> numbers) {
        return new HashSet<>(numbers).size();
    }

    int colour(int w, int v, int by) {
        if (!worlds.containsKey(w) || !worlds.containsKey(v)) {
            return UNKNOWN;
        }
        if (by < 0 || by > 1) {
            return OUTSIDE;
        }
        W one = worlds.get(w);
        W two = worlds.get(v);
        List<String> names = new ArrayList<>();
        for (W it : List.of(one, two)) {
            for (int i = 0; i < it.n; i++) {
                for (int j = 0; j < (by == 0 ? 1 : it.n); j++) {
                    names.add(looks(it, by == 0 ? new int[] {i} : new int[] {i, j}));
                }
            }
        }
        coloursOf = numbered(names);
        coloursOfFirst = by == 0 ? one.n : one.n * one.n;
        parted = 0;
        while (true) {
            List<String> finer = new ArrayList<>();
            describe(one, coloursOf.subList(0, coloursOfFirst), by, finer);
            describe(two, coloursOf.subList(coloursOfFirst, coloursOf.size()), by, finer);
            List<Integer> next = numbered(finer);
            if (different(next) == different(coloursOf)) {
                return different(coloursOf);
            }
            coloursOf = next;
            parted++;
        }
    }

    private static String looks(W w, int[] row) {
        StringBuilder name = new StringBuilder();
        for (int i : row) {
            name.append(w.a[i]).append(w.b[i]);
            for (int j : row) {
                name.append(w.e[i][j]).append(i == j);
            }
        }
        return name.toString();
    }

    private static void describe(W w, List<Integer> colours, int by, List<String> names) {
        for (int i = 0; i < w.n; i++) {
            if (by == 0) {
                Map<Integer, Integer> from = new TreeMap<>();
                Map<Integer, Integer> to = new TreeMap<>();
                for (int x = 0; x < w.n; x++) {
                    if (w.e[i][x]) {
                        from.merge(colours.get(x), 1, Integer::sum);
                    }
                    if (w.e[x][i]) {
                        to.merge(colours.get(x), 1, Integer::sum);
                    }
                }
                names.add(colours.get(i) + " " + from + " " + to);
                continue;
            }
            for (int j = 0; j < w.n; j++) {
                Set<Integer> ahead = new TreeSet<>();
                Set<Integer> behind = new TreeSet<>();
                for (int x = 0; x < w.n; x++) {
                    ahead.add(colours.get(x * w.n + j));
                    behind.add(colours.get(i * w.n + x));
                }
                names.add(colours.get(i * w.n + j) + " " + ahead + " " + behind);
            }
        }
    }

    int coloured(int i) {
        return coloursOf == null || i < 0 || i >= coloursOf.size() ? UNKNOWN : coloursOf.get(i);
    }

    int still(int what) {
        if (what < 0 || what > 1) {
            return OUTSIDE;
        }
        if (coloursOf == null) {
            return STATE;
        }
        if (what == 0) {
            return parted;
        }
        List<Integer> first = new ArrayList<>(coloursOf.subList(0, coloursOfFirst));
        List<Integer> second = new ArrayList<>(coloursOf.subList(coloursOfFirst, coloursOf.size()));
        first.sort(null);
        second.sort(null);
        return first.equals(second) ? 1 : 0;
    }

    int told(int what) {
        switch (what) {
            case 0:
                return worlds.size();
            case 1:
                return sentences.size();
            case 2:
                return tape.length();
            case 3:
                return kindsOf.size();
            case 4:
                return coloursOf == null ? 0 : coloursOf.size();
            default:
                return OUTSIDE;
        }
    }
}
