import java.io.IOException;
import java.nio.file.Files;
import java.nio.file.Path;
import java.util.Arrays;

/**
 * What the tests of the document's edges share. Each of them begins by says(): whose promise it is (and of which part of
 * "Terms" the words are), and the words of the document; all answers until the next says() are told with them.
 */
abstract class Edges {
    static final int MAX = Integer.MAX_VALUE;
    static final int MIN = Integer.MIN_VALUE;
    static final long ALL = 1_000_000_000_000L;

    private static final String DOC = document();
    private static String sentence = "";
    private static int sentences = 0;
    private static int answers = 0;
    private static int wrong = 0;
    private static boolean isAsked = true;

    static void says(String where, String words) {
        if (!isAsked) tell(sentence + ": nothing was asked");
        if (!DOC.isEmpty() && !DOC.contains(words)) System.out.println("not in the document (any more): " + words);
        sentence = where + " \"" + words + "\"";
        isAsked = false;
        sentences++;
    }

    static void be(String call, long got, long want) {
        isAsked = true;
        answers++;
        if (got != want) tell(sentence + ": " + call + " answered " + got + ", due is " + want);
    }

    static void be(String call, String got, String want) {
        isAsked = true;
        answers++;
        if (!got.equals(want)) tell(sentence + ": " + call + " told " + got + ", due is " + want);
    }

    private static void tell(String what) {
        wrong++;
        System.out.println(what);
    }

    static void close() {
        if (!isAsked) tell(sentence + ": nothing was asked");
        System.out.println(sentences + " sentences, " + answers + " answers, " + (wrong == 0 ? "all as due" : wrong + " not as due"));
        if (wrong != 0) System.exit(1);
    }

    private static String document() {
        try {
            return Files.readString(Path.of("../shared/DOC.md"));
        } catch (IOException e) {
            return "";
        }
    }

    /** Numbers on both sides of a range. */
    static int[] outside(int low, int high) { return new int[] {low - 1, high + 1, low - 2, high + 2, low - 1000, high + 1000, MIN, MAX}; }

    /** The same without NONE. */
    static int[] outsideButNone(int low, int high) { return Arrays.stream(outside(low, high)).filter(n -> n != -1).toArray(); }

    static String many(String part, String between, int n) {
        StringBuilder b = new StringBuilder(part);
        for (int i = 1; i < n; i++) b.append(between).append(part);
        return b.toString();
    }

    /** Acts of one minute that last so many days and bind class 0; readers of a voice of 99. */
    static FadingActs plain(int acts, int term, int readers) {
        FadingActs x = new FadingActs();
        for (int i = 0; i < acts; i++) x.act(1, term, 1);
        for (int i = 0; i < readers; i++) x.reader(99, 0);
        return x;
    }

    /** A log of 24 readings of act 0, one a day; it is DAY 24 then. */
    static FadingActs full(int acts, int term, int readers) {
        FadingActs x = plain(acts, term, readers);
        for (int i = 0; i < 24; i++) {
            x.read(0, 0);
            x.await();
        }
        return x;
    }

    /** A state in which all that can be kept has something; some 50 calls. */
    static FadingActs rich() {
        FadingActs x = Due.market();
        x.put(2, 3, 0);
        x.gainsay(0, 1, 1);
        x.listen(2, 5);
        x.terms(0, 3);
        x.terms(1, 4);
        x.terms(2, 15);
        x.terms(3, 6);
        Due.law(x, "lasts 7 if weekday = 3");
        Due.force(x, "takes 9 if mood = 6; lasts 4 if act = 1");
        x.read(0, 0);
        x.await();
        x.read(1, 1);
        x.fine(3, 0, 0, 1);
        x.fine(4, 2, 1, 0);
        x.years(17, 40);
        x.image(1);
        x.read(2, 0);
        Due.tape(x, new byte[] {7, 7, 7, 0, 0, 0, 0, 0});
        x.row();
        Due.orders(x, "wait; read 9 by 9");
        Due.law(x, "takes 3 takes 4");
        Due.tape(x, "wait; wait");
        return x;
    }

    /** All that can be seen of an object but status(), what was refused, and what no call tells without changing it. */
    static String seen(FadingActs x) {
        StringBuilder b = new StringBuilder();
        for (int i = 0; i < 6; i++) add(b, x.count(i));
        for (int i = 11; i < 16; i++) add(b, x.count(i));
        add(b, x.mud());
        add(b, x.fault());
        add(b, x.stopped());
        int acts = x.count(0);
        int readings = x.count(2);
        int today = x.count(12);
        for (int a = 0; a < acts; a++) {
            for (int what = 0; what < 6; what++) add(b, x.of(a, what));
            for (int what = 0; what < 2; what++) add(b, x.drawn(a, what));
        }
        for (int r = x.count(1) - 1; r >= 0; r--) {
            for (int what = 0; what < 3; what++) add(b, x.throat(r, what));
            for (int a = 0; a < acts; a++) for (int what = 0; what < 4; what++) add(b, x.asks(a, r, what));
        }
        for (int i = 0; i < readings; i++) for (int what = 0; what < 4; what++) add(b, x.log(i, what));
        for (int k = 0; k < 6; k++) add(b, x.bound(k, today));
        add(b, x.dead());
        add(b, x.judge());
        add(b, x.unwritten(-1));
        return b.append(changed(x, acts)).toString();
    }

    /** What is told by the calls that change it; it is changed back. */
    private static String changed(FadingActs x, int acts) {
        StringBuilder b = new StringBuilder();
        for (int a = 0; a < acts; a++) {
            for (int other = 0; other < a; other++) {
                int was = x.gainsay(a, other, 0);
                add(b, was);
                x.gainsay(other, a, was);
            }
        }
        for (int weekday = 0; weekday < 7; weekday++) {
            int were = x.listen(weekday, 1);
            add(b, were);
            x.listen(weekday, were);
        }
        return b.toString();
    }

    private static void add(StringBuilder b, long n) { b.append(n).append(' '); }
}
