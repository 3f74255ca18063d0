import java.nio.charset.StandardCharsets;
import java.util.Random;

/** Long runs of calls, made from fixed seeds, each answer held against the model's. */
public final class ModelTest {
    private static final Check CHECK = new Check("ModelTest");
    private static final int RUNS = 400;
    private static final int CALLS = 512;

    private final Random random;
    private final TwoWorlds x = new TwoWorlds();
    private final Model model = new Model();
    private final String run;
    /** Runs with few odd arguments go deep; runs with many come by all refusals. */
    private final int oddity;

    private ModelTest(int seed) {
        random = new Random(seed);
        run = "run " + seed + " ";
        oddity = seed % 3 == 0 ? 8 : 60;
    }

    public static void main(String[] args) {
        for (int seed = 0; seed < RUNS; seed++) {
            ModelTest test = new ModelTest(seed);
            for (int call = 0; call < CALLS;) {
                call += test.some(seed % 5);
            }
        }
        CHECK.end();
    }

    private void due(String call, int got, int want) {
        CHECK.due(run + call, got, want);
    }

    /** A number of 0 to below, now and then another one. */
    private int number(int below) {
        if (random.nextInt(oddity) > 0) {
            return random.nextInt(below);
        }
        int[] odd = {-1, below, below + 1, -2, Integer.MAX_VALUE, Integer.MIN_VALUE, 31, 32, 64, -20};
        return odd[random.nextInt(odd.length)];
    }

    /** One step of a run; how many calls it took. */
    private int some(int kind) {
        int what = random.nextInt(20);
        if (what < 3) {
            return random.nextInt(3) == 0 ? makePattern() : makeWorld();
        }
        if (what < 8) {
            return change();
        }
        if (what < 11) {
            return kind == 0 ? games() : plays();
        }
        if (what < 15) {
            return kind == 1 ? sentences() : kind == 2 ? texts() : asks();
        }
        return kind == 3 ? parting() : colours();
    }

    private int makeWorld() {
        int w = number(6);
        switch (random.nextInt(4)) {
            case 0:
                int v = number(6);
                int a = number(6);
                int b = number(6);
                due("turn " + w + " " + a + " " + b + " " + v, x.turn(w, a, b, v), model.turn(w, a, b, v));
                return 1;
            case 1:
                int one = number(6);
                int to = number(6);
                due("join " + w + " " + one + " " + to, x.join(w, one, to), model.join(w, one, to));
                return 1;
            default:
                int n = random.nextInt(8) == 0 ? number(8) : 1 + random.nextInt(6);
                due("world " + w + " " + n, x.world(w, n), model.world(w, n));
                int calls = 1;
                int thickness = random.nextInt(5);
                for (int i = 0; i < n && n <= 6; i++) {
                    for (int j = 0; j < n; j++) {
                        if (random.nextInt(5) < thickness) {
                            due("tie " + w + " " + i + " " + j, x.tie(w, i, j, true), model.tie(w, i, j, true));
                            calls++;
                        }
                    }
                }
                return calls;
        }
    }

    /** Bare things, a line, a ring, or all tied to all, with or without a flaw: such worlds are hard to tell apart. */
    private int makePattern() {
        int w = random.nextInt(6);
        int n = 2 + random.nextInt(5);
        int shape = random.nextInt(5);
        due("world " + w + " " + n, x.world(w, n), model.world(w, n));
        int calls = 1;
        for (int i = 0; i < n; i++) {
            for (int j = 0; j < n; j++) {
                boolean ring = (i + 1) % n == j || (j + 1) % n == i;
                if (shape == 1 && i < j || shape == 2 && ring || shape == 3 && i != j || shape == 4 && (i + 1) % n == j) {
                    due("tie " + w + " " + i + " " + j, x.tie(w, i, j, true), model.tie(w, i, j, true));
                    calls++;
                }
            }
        }
        if (random.nextBoolean()) {
            int a = random.nextInt(n);
            int b = random.nextInt(n);
            boolean is = model.tied(w, a, b) == 0;
            due("tie " + w + " " + a + " " + b + " " + is, x.tie(w, a, b, is), model.tie(w, a, b, is));
            calls++;
        }
        return calls;
    }

    private int change() {
        int w = number(6);
        int a = number(6);
        int b = number(6);
        boolean is = random.nextBoolean();
        switch (random.nextInt(6)) {
            case 0:
                int which = number(2);
                due("mark " + w + " " + a + " " + which + " " + is, x.mark(w, a, which, is), model.mark(w, a, which, is));
                return 1;
            case 1:
                due("tied " + w + " " + a + " " + b, x.tied(w, a, b), model.tied(w, a, b));
                return 1;
            case 2:
                int what = random.nextBoolean() ? number(4) : 10 + number(6);
                due("about " + w + " " + what, x.about(w, what), model.about(w, what));
                return 1;
            case 3:
                int told = number(5);
                due("told " + told, x.told(told), model.told(told));
                return 1;
            default:
                due("tie " + w + " " + a + " " + b + " " + is, x.tie(w, a, b, is), model.tie(w, a, b, is));
                return 1;
        }
    }

    private int games() {
        int w = number(6);
        int v = number(6);
        int k = number(4);
        due("game " + w + " " + v + " " + k, x.game(w, v, k), model.game(w, v, k));
        due("rank " + w + " " + v, x.rank(w, v), model.rank(w, v));
        return 2;
    }

    private int plays() {
        int calls = 3;
        if (model.state() != 1 && model.state() != 2 || random.nextInt(10) == 0) {
            int w = number(6);
            int v = number(6);
            int k = number(4);
            due("play " + w + " " + v + " " + k, x.play(w, v, k), model.play(w, v, k));
            calls++;
        }
        due("best", x.best(), model.best());
        int side = number(2);
        int thing = number(6);
        boolean seeker = model.state() == 1 != (random.nextInt(10) == 0);
        if (seeker && model.best() >= 0 && random.nextBoolean()) {
            side = model.best() / 10;
            thing = model.best() % 10;
        } else if (!seeker && model.best() >= 0 && random.nextInt(4) > 0) {
            thing = model.best();
        }
        if (seeker) {
            due("pick " + side + " " + thing, x.pick(side, thing), model.pick(side, thing));
        } else {
            due("answer " + thing, x.answer(thing), model.answer(thing));
        }
        due("left", x.left(), model.left());
        due("state", x.state(), model.state());
        return calls + 1;
    }

    // ---- texts

    private String blanks() {
        int many = random.nextInt(12);
        return many > 1 ? "" : many == 0 ? " " : "\n ";
    }

    private String letter(String bound) {
        return bound.isEmpty() || random.nextInt(60) == 0 ? "" + (char) ('a' + random.nextInt(8))
                : "" + bound.charAt(random.nextInt(bound.length()));
    }

    private String formula(int deep, String bound) {
        int parts = random.nextInt(3) > 0 ? 1 : 2 + random.nextInt(3);
        String between = random.nextBoolean() ? "&" : "|";
        StringBuilder text = new StringBuilder(part(deep, bound));
        for (int i = 1; i < parts; i++) {
            text.append(blanks()).append(between).append(blanks()).append(part(deep, bound));
        }
        return text.toString();
    }

    private String part(int deep, String bound) {
        int choice = random.nextInt(deep <= 0 ? 3 : 10);
        if (choice < 3) {
            return atom(bound);
        }
        if (choice < 5) {
            return "-" + blanks() + part(deep - 1, bound);
        }
        if (choice < 8) {
            char letter = (char) ('a' + random.nextInt(8));
            return (random.nextBoolean() ? "@" : "?") + blanks() + letter + blanks() + part(deep - 1, bound + letter);
        }
        return "(" + formula(deep - 1, bound) + ")";
    }

    private String atom(String bound) {
        if (bound.isEmpty() && random.nextInt(40) > 0) {
            return random.nextBoolean() ? "T" : "F";
        }
        switch (random.nextInt(8)) {
            case 0:
                return random.nextBoolean() ? "T" : "F";
            case 1:
            case 2:
                return "A" + blanks() + letter(bound);
            case 3:
                return "B" + letter(bound);
            case 4:
                return "=" + letter(bound) + blanks() + letter(bound);
            default:
                return "E" + letter(bound) + letter(bound);
        }
    }

    private String spoilt(String text) {
        StringBuilder other = new StringBuilder(text);
        String signs = "abhi-@?()ABE=TF&| \n" + (char) 0 + (char) 255 + "x";
        for (int i = random.nextInt(3); i >= 0 && other.length() > 0; i--) {
            int at = random.nextInt(other.length());
            char sign = signs.charAt(random.nextInt(signs.length()));
            switch (random.nextInt(3)) {
                case 0:
                    other.setCharAt(at, sign);
                    break;
                case 1:
                    other.insert(at, sign);
                    break;
                default:
                    other.deleteCharAt(at);
            }
        }
        return other.toString();
    }

    private int put(String text) {
        byte[] bytes = text.getBytes(StandardCharsets.ISO_8859_1);
        int calls = 1;
        for (int at = 0; at < bytes.length; at += 20) {
            int a = Check.word(bytes, at);
            int b = Check.word(bytes, at + 4);
            int c = Check.word(bytes, at + 8);
            int d = Check.word(bytes, at + 12);
            int e = Check.word(bytes, at + 16);
            due("feed " + text, x.feed(a, b, c, d, e), model.feed(a, b, c, d, e));
            calls++;
        }
        int n = Math.min(bytes.length, 800);
        if (random.nextInt(30) == 0) {
            n += random.nextInt(5) - 2;
        }
        due("trim " + n, x.trim(n), model.trim(n));
        return calls;
    }

    private String randomText() {
        int deep = random.nextInt(4) == 0 ? 13 : random.nextInt(7);
        String text = formula(deep, "");
        while (text.length() > 200) {
            text = formula(deep, "");
        }
        return random.nextInt(3) == 0 ? spoilt(text) : text;
    }

    private int texts() {
        String text = randomText();
        int calls = put(text);
        int s = model.told(1);
        due("read " + text, x.read(), model.read());
        if (model.told(1) > s) {
            lookAt(s, text);
        }
        return calls + 1;
    }

    /** All of a sentence; these calls are not counted, for no call changes anything. */
    private void lookAt(int s, String text) {
        for (int what = 0; what < 3; what++) {
            due("sentence " + what + " of " + text, x.sentence(s, what), model.sentence(s, what));
        }
        for (int i = -1; i <= model.sentence(s, 2); i++) {
            due("written " + i + " of " + text, x.written(s, i), model.written(s, i));
        }
        for (int w = -1; w <= 6; w++) {
            due("holds " + w + " of " + text, x.holds(s, w), model.holds(s, w));
            due("asked " + w + " of " + text, x.asked(), model.asked());
        }
        for (int t = -1; t <= model.told(1); t++) {
            due("same " + s + " " + t, x.same(s, t), model.same(s, t));
        }
    }

    private int sentences() {
        return model.told(1) < 20 ? texts() : asks();
    }

    private int asks() {
        int s = number(Math.max(1, model.told(1)));
        int w = number(6);
        due("holds " + s + " " + w, x.holds(s, w), model.holds(s, w));
        due("asked", x.asked(), model.asked());
        int what = number(3);
        due("sentence " + s + " " + what, x.sentence(s, what), model.sentence(s, what));
        int i = number(40);
        due("written " + s + " " + i, x.written(s, i), model.written(s, i));
        return 4;
    }

    // ---- partings, kinds, colours

    private int parting() {
        int w = number(6);
        int v = number(6);
        int s = model.told(1);
        due("part " + w + " " + v, x.part(w, v), model.part(w, v));
        if (model.told(1) > s) {
            lookAt(s, "part " + w + " " + v);
            CHECK.due(run + "part " + w + " " + v + " parts", x.holds(s, w) - x.holds(s, v), 1);
            model.holds(s, v);
        }
        return 1;
    }

    private int colours() {
        int w = number(6);
        int v = random.nextInt(3) == 0 ? w : number(6);
        if (random.nextInt(3) == 0) {
            int k = number(3);
            due("kinds " + w + " " + v + " " + k, x.kinds(w, v, k), model.kinds(w, v, k));
            for (int i = -1; i <= model.told(3); i++) {
                due("kind " + i, x.kind(i), model.kind(i));
            }
            return 1;
        }
        int by = number(2);
        due("colour " + w + " " + v + " " + by, x.colour(w, v, by), model.colour(w, v, by));
        for (int i = -1; i <= model.told(4); i++) {
            due("coloured " + i, x.coloured(i), model.coloured(i));
        }
        for (int what = -1; what <= 2; what++) {
            due("still " + what, x.still(what), model.still(what));
        }
        return 1;
    }
}
