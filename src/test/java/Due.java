import java.nio.charset.StandardCharsets;

/** Counts the answers that are not as due; the tests of the project share it. */
final class Due {
    private static int wrong = 0;
    private static int asked = 0;

    private Due() { }

    static void be(String what, long got, long want) {
        asked++;
        if (got != want) {
            wrong++;
            System.out.println(what + " answered " + got + ", due is " + want);
        }
    }

    static void close() {
        System.out.println(asked + " answers, " + (wrong == 0 ? "all as due" : wrong + " not as due"));
        if (wrong != 0) System.exit(1);
    }

    /** Puts a text on an empty tape. */
    static void tape(FadingActs x, String text) { tape(x, text.getBytes(StandardCharsets.ISO_8859_1)); }

    static void tape(FadingActs x, byte[] bytes) {
        x.end(0);
        for (int at = 0; at < bytes.length; at += 20) {
            int[] n = new int[5];
            for (int i = 0; i < 20; i++) n[i / 4] = n[i / 4] << 8 | (at + i < bytes.length ? bytes[at + i] & 255 : 0);
            x.feed(n[0], n[1], n[2], n[3], n[4]);
        }
        x.end(bytes.length);
    }

    static int law(FadingActs x, String text) {
        tape(x, text);
        return x.law();
    }

    static int orders(FadingActs x, String text) {
        tape(x, text);
        return x.orders();
    }

    /** Such a law comes into force. */
    static void force(FadingActs x, String text) { x.force(law(x, text)); }

    /** Acts 0, 1, 2 (10 minutes, 5 days; 20, 3; 30, 2), readers 0, 1 (voices 50, 25; classes 0, 1). */
    static FadingActs market() {
        FadingActs x = new FadingActs();
        x.act(10, 5, 3);
        x.act(20, 3, 4);
        x.act(30, 2, 63);
        x.reader(50, 0);
        x.reader(25, 1);
        return x;
    }
}
