import java.nio.charset.StandardCharsets;

/** What the tests share: counting wrong answers, and texts on the tape. */
final class Check {
    private final String name;
    private int right = 0;
    private int wrong = 0;

    Check(String name) {
        this.name = name;
    }

    void due(String call, long got, long want) {
        if (got == want) {
            right++;
            return;
        }
        wrong++;
        if (wrong <= 40) {
            System.out.println(name + ": " + call + " answered " + got + ", due is " + want);
        }
    }

    void due(String call, String got, String want) {
        boolean same = got.equals(want);
        due(call + (same ? "" : ": '" + got + "' in place of '" + want + "'"), same ? 1 : 0, 1);
    }

    void end() {
        System.out.println(name + ": " + right + " answers as due, " + wrong + " not");
        if (wrong != 0) {
            System.exit(1);
        }
    }

    /** Puts a text on the tape, which must be empty. */
    static void put(TwoWorlds x, String text) {
        byte[] bytes = text.getBytes(StandardCharsets.ISO_8859_1);
        for (int at = 0; at < bytes.length; at += 20) {
            x.feed(word(bytes, at), word(bytes, at + 4), word(bytes, at + 8), word(bytes, at + 12), word(bytes, at + 16));
        }
        x.trim(bytes.length);
    }

    static int word(byte[] bytes, int at) {
        int number = 0;
        for (int i = at; i < at + 4; i++) {
            number = number << 8 | (i < bytes.length ? bytes[i] & 255 : 0);
        }
        return number;
    }

    static int read(TwoWorlds x, String text) {
        put(x, text);
        return x.read();
    }

    static String written(TwoWorlds x, int s) {
        StringBuilder text = new StringBuilder();
        for (int i = 0; i < x.sentence(s, 2); i++) {
            text.append((char) x.written(s, i));
        }
        return text.toString();
    }

    /** A world in which E goes from each thing to all later ones. */
    static void line(TwoWorlds x, int w, int n) {
        x.world(w, n);
        for (int a = 0; a < n; a++) {
            for (int b = a + 1; b < n; b++) {
                x.tie(w, a, b, true);
            }
        }
    }

    /** A world of rings, E both ways, one behind the other. */
    static void rings(TwoWorlds x, int w, int... sizes) {
        int n = 0;
        for (int size : sizes) {
            n += size;
        }
        x.world(w, n);
        int from = 0;
        for (int size : sizes) {
            for (int i = 0; i < size; i++) {
                x.tie(w, from + i, from + (i + 1) % size, true);
                x.tie(w, from + (i + 1) % size, from + i, true);
            }
            from += size;
        }
    }
}
