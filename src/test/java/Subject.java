import java.nio.charset.StandardCharsets;

/** What the tests share: telling a text to an object, and comparing answers with what is due. */
final class Subject {
    private static int wrong;
    private static int asked;

    private Subject() {
    }

    static void due(String call, long got, long want) {
        asked++;
        if (got != want) {
            wrong++;
            if (wrong <= 40) {
                System.out.println(call + " answered " + got + ", due is " + want);
            }
        }
    }

    static void due(String call, boolean got, boolean want) {
        due(call, got ? 1L : 0L, want ? 1L : 0L);
    }

    static void due(String call, String got, String want) {
        asked++;
        if (!got.equals(want)) {
            wrong++;
            System.out.println(call + " answered " + got + ", due is " + want);
        }
    }

    static int wrong() {
        return wrong;
    }

    static void finish(String name) {
        System.out.println(name + ": " + asked + " answers, " + wrong + " not as due");
        if (asked == 0 || wrong != 0) {
            System.exit(1);
        }
    }

    static int word(byte[] bytes, int at) {
        int value = 0;
        for (int i = at; i < at + 4; i++) {
            value = value << 8 | (i < bytes.length ? bytes[i] & 255 : 0);
        }
        return value;
    }

    /** Feeds a text on an empty tape; it may have 800 bytes at most. */
    static void feed(LateMover x, String text) {
        byte[] bytes = text.getBytes(StandardCharsets.ISO_8859_1);
        x.end(0);
        for (int i = 0; i < bytes.length; i += 20) {
            x.feed(word(bytes, i), word(bytes, i + 4), word(bytes, i + 8), word(bytes, i + 12), word(bytes, i + 16));
        }
        x.end(bytes.length);
    }

    static int tell(LateMover x, String text) {
        feed(x, text);
        return x.program();
    }

    static LateMover of(String text) {
        LateMover x = new LateMover();
        tell(x, text);
        return x;
    }

    /** What is written at a node, as a text. */
    static String written(LateMover x, int n, int how) {
        int size = x.write(n, how);
        StringBuilder text = new StringBuilder();
        for (int k = 0; k < size; k++) {
            text.append((char) x.octet(k));
        }
        return size < 0 ? "none" : text.toString();
    }
}
