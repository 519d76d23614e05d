import java.nio.charset.StandardCharsets;
import java.util.Random;

/** Runs of calls by draws from fixed seeds, each answer held against that of PlainActs. */
public final class FuzzTest {
    private static int wrong = 0;
    private static int calls = 0;

    private final FadingActs x = new FadingActs();
    private final PlainActs p = new PlainActs();
    private final Random r;
    private final int run;
    // In a mild run most readings can be, so that what is on paper has more to weigh.
    private final boolean mild;
    private final StringBuilder story = new StringBuilder();
    private boolean good = true;
    // Of an object nothing is promised behind its 512th call; a step makes some thirty at most.
    private int made = 0;

    private FuzzTest(int run) {
        this.run = run;
        this.mild = run % 3 == 0;
        this.r = new Random(run * 7919L + 13);
    }

    public static void main(String[] args) {
        int runs = args.length > 0 ? Integer.parseInt(args[0]) : 2500;
        int first = args.length > 1 ? Integer.parseInt(args[1]) : 0;
        for (int run = first; run < first + runs && wrong < 5; run++) new FuzzTest(run).go();
        System.out.println(calls + " calls, " + (wrong == 0 ? "all answers are as due" : wrong + " runs went wrong"));
        if (wrong != 0) System.exit(1);
    }

    private void due(String call, long got, long want) {
        calls++;
        made++;
        if (!good) return;
        story.append(call).append(" -> ").append(want).append('\n');
        if (got != want) {
            good = false;
            wrong++;
            System.out.println("run " + run + ":\n" + story + call + " answered " + got + ", due is " + want);
        }
    }

    private int in(int low, int high) { return low + r.nextInt(high - low + 1); }
    private boolean chance(int percent) { return r.nextInt(100) < percent; }

    /** Mostly within, now and then a step or far outside. */
    private int about(int low, int high) {
        if (chance(96)) return in(low, high);
        int[] odd = {low - 1, high + 1, low - 2, Integer.MAX_VALUE, Integer.MIN_VALUE};
        return odd[r.nextInt(odd.length)];
    }

    private int anAct() { return chance(97) && p.s.acts.size() > 0 ? in(0, p.s.acts.size() - 1) : about(-1, 8); }
    private int aReader() { return chance(97) && p.s.readers.size() > 0 ? in(0, p.s.readers.size() - 1) : about(-1, 4); }
    private int someActs() {
        int all = (1 << p.s.acts.size()) - 1;
        int bits = r.nextInt(256) & all;
        if (chance(50)) bits &= r.nextInt(256);
        return chance(97) ? bits : about(0, 256);
    }
    private int aDay() { return chance(90) ? Math.max(0, p.s.terms[0] + in(-12, 12)) : about(0, 999); }

    private void go() {
        for (int i = in(1, 5); i > 0; i--) act();
        for (int i = in(1, 3); i > 0; i--) reader();
        int n = in(20, 400);
        for (int i = 0; i < n && good && made < 480; i++) step();
    }

    private void act() {
        int a = chance(mild ? 95 : 60) ? in(1, 25) : about(1, 60), b = chance(60) ? in(1, 6) : about(1, 30), c = about(1, 63);
        due("act(" + a + ", " + b + ", " + c + ")", x.act(a, b, c), p.act(a, b, c));
    }

    private void reader() {
        int a = about(mild ? 50 : 1, 99), b = about(0, 5);
        due("reader(" + a + ", " + b + ")", x.reader(a, b), p.reader(a, b));
    }

    private void step() {
        int kind = r.nextInt(100);
        if (kind < 22) move();
        else if (kind < 34) change();
        else if (kind < 46) text();
        else if (kind < 72) look();
        else if (kind < 90) paper();
        else keep();
        due("status()", x.status(), p.status);
    }

    private void move() {
        if (chance(60)) {
            int a = anAct(), b = aReader();
            due("read(" + a + ", " + b + ")", x.read(a, b), p.read(a, b));
        } else if (chance(85)) {
            due("await()", x.await(), p.await());
        } else {
            due("undo()", x.undo(), p.undo());
        }
    }

    private void change() {
        switch (r.nextInt(9)) {
            case 0 -> act();
            case 1 -> reader();
            case 2, 3 -> {
                int a = anAct(), b = about(0, 3);
                int c = b == 0 ? about(1, 60) : b == 1 ? about(1, 30) : b == 2 ? about(1, 63) : chance(30) ? -1 : chance(90) ? anAct() : about(-3, 9);
                due("put(" + a + ", " + b + ", " + c + ")", x.put(a, b, c), p.put(a, b, c));
            }
            case 4 -> {
                int a = anAct(), b = anAct(), c = about(0, 1);
                due("gainsay(" + a + ", " + b + ", " + c + ")", x.gainsay(a, b, c), p.gainsay(a, b, c));
            }
            case 5 -> {
                int a = about(0, 6), b = mild && chance(80) ? 63 : about(0, 63);
                due("listen(" + a + ", " + b + ")", x.listen(a, b), p.listen(a, b));
            }
            case 6 -> {
                int a = about(0, 3);
                int b = a == 0 ? (chance(90) ? p.s.terms[0] + in(-3, 4) : chance(50) ? in(990, 999) : about(0, 999))
                        : about(a == 2 ? 1 : 0, a == 1 ? 10 : a == 2 ? 60 : 9);
                due("terms(" + a + ", " + b + ")", x.terms(a, b), p.terms(a, b));
            }
            case 7 -> {
                int a = chance(90) ? in(-1, p.s.laws.size()) : about(-1, 6);
                due("force(" + a + ")", x.force(a), p.force(a));
            }
            default -> {
                int d = aDay(), k = about(0, 5), a = anAct(), is = about(0, 1);
                if (chance(85)) due("fine(" + d + ", " + k + ", " + a + ", " + is + ")", x.fine(d, k, a, is), p.fine(d, k, a, is));
                else due("forgive()", x.forgive(), p.forgive());
            }
        }
    }

    private void feed(byte[] bytes) {
        for (int at = 0; at < bytes.length; at += 20) {
            int[] n = new int[5];
            for (int i = 0; i < 20; i++) n[i / 4] = n[i / 4] << 8 | (at + i < bytes.length ? bytes[at + i] & 255 : 0);
            due("feed(" + n[0] + ", " + n[1] + ", " + n[2] + ", " + n[3] + ", " + n[4] + ")",
                    x.feed(n[0], n[1], n[2], n[3], n[4]), p.feed(n));
        }
        int end = chance(97) ? bytes.length : about(0, 400);
        due("end(" + end + ")", x.end(end), p.end(end));
    }

    private void text() {
        if (chance(10)) {
            byte[] rows = new byte[in(0, 24)];
            for (int i = 0; i < rows.length; i++) {
                rows[i] = (byte) (i % 4 == 0 ? in(0, 61) : i % 4 == 1 ? in(0, 31) : i % 4 == 2 ? in(0, 64) : in(0, 9));
            }
            feed(rows);
            due("row()", x.row(), p.row());
            due("mud()", x.mud(), p.mud);
            return;
        }
        boolean law = chance(50);
        FuzzTexts texts = new FuzzTexts(r, law);
        String text = texts.text();
        story.append("// ").append(text).append('\n');
        feed(text.getBytes(StandardCharsets.ISO_8859_1));
        due("count(5)", x.count(5), p.count(5));
        if (law) {
            due("law()", x.law(), p.law());
            if (chance(mild ? 10 : 60)) {
                int n = p.s.laws.size() - 1;
                due("force(" + n + ")", x.force(n), p.force(n));
            }
        } else {
            due("orders()", x.orders(), p.orders());
        }
        due("fault()", x.fault(), p.fault);
        due("stopped()", x.stopped(), p.stopped);
    }

    private void look() {
        switch (r.nextInt(8)) {
            case 0 -> {
                int a = anAct(), b = about(0, 5);
                due("of(" + a + ", " + b + ")", x.of(a, b), p.of(a, b));
            }
            case 1 -> {
                int a = aReader(), b = about(0, 2);
                due("throat(" + a + ", " + b + ")", x.throat(a, b), p.throat(a, b));
            }
            case 2, 3 -> {
                int a = anAct(), b = aReader(), c = about(0, 3);
                due("asks(" + a + ", " + b + ", " + c + ")", x.asks(a, b, c), p.asks(a, b, c));
            }
            case 4 -> {
                int a = about(0, 24), b = about(0, 3);
                due("log(" + a + ", " + b + ")", x.log(a, b), p.log(a, b));
            }
            case 5 -> {
                int d = aDay();
                due("held(" + d + ")", x.held(d), p.held(d));
            }
            case 6 -> {
                int k = about(0, 5), d = aDay();
                due("bound(" + k + ", " + d + ")", x.bound(k, d), p.bound(k, d));
            }
            default -> {
                int a = about(0, 15);
                due("count(" + a + ")", x.count(a), p.count(a));
            }
        }
    }

    private void paper() {
        switch (r.nextInt(9)) {
            case 0, 1 -> {
                int a = someActs(), b = chance(85) ? someActs() & ~a : someActs(), c = aReader();
                int n = about(1, p.s.acts.size() < 5 ? 5 : 3), i = chance(50) ? -1 : about(0, n < 5 && n > 0 ? n - 1 : 4);
                due("mornings(" + a + ", " + b + ", " + c + ", " + n + ", " + i + ")",
                        x.mornings(a, b, c, n, i), p.mornings(a, b, c, n, i));
            }
            case 2 -> {
                int a = someActs(), b = someActs(), f = aReader(), o = aReader();
                int n = about(1, p.s.acts.size() < 5 ? 4 : 3), w = about(0, 1);
                due("game(" + a + ", " + b + ", " + f + ", " + o + ", " + n + ", " + w + ")",
                        x.game(a, b, f, o, n, w), p.game(a, b, f, o, n, w));
            }
            case 3 -> due("dead()", x.dead(), p.dead());
            case 4 -> {
                int a = someActs(), w = about(0, 1);
                due("throats(" + a + ", " + w + ")", x.throats(a, w), p.throats(a, w));
            }
            case 5 -> {
                int a = someActs(), i = about(-1, 7);
                due("days(" + a + ", " + i + ")", x.days(a, i), p.days(a, i));
            }
            case 6 -> {
                int a = anAct(), b = aReader(), n = about(0, 60);
                due("likely(" + a + ", " + b + ", " + n + ")", x.likely(a, b, n), p.likely(a, b, n));
            }
            case 7 -> {
                due("judge()", x.judge(), p.judge());
                int i = chance(40) ? -1 : chance(80) ? in(0, 20) : about(0, 960);
                due("unwritten(" + i + ")", x.unwritten(i), p.unwritten(i));
            }
            default -> {
                int s = about(0, 1000000), n = about(1, 60);
                due("years(" + s + ", " + n + ")", x.years(s, n), p.years(s, n));
                for (int a = -1; a < 9; a++) {
                    int w = about(0, 1);
                    due("drawn(" + a + ", " + w + ")", x.drawn(a, w), p.drawn(a, w));
                }
            }
        }
    }

    private void keep() {
        int k = about(0, 1);
        if (chance(60)) due("image(" + k + ")", x.image(k), p.image(k));
        else due("back(" + k + ")", x.back(k), p.back(k));
    }
}
