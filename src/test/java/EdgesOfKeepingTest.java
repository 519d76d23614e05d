/** The sentences on rows, fines, images, counts and the status, of promises 12, 13, 32 to 35, 38 to 41, that name an edge. */
public final class EdgesOfKeepingTest extends Edges {
    public static void main(String[] args) {
        rowIsRefused();
        rowsByFours();
        rowsNeeds();
        rowsMud();
        rowsEndWithin();
        rowsNoRoom();
        mudOfTheLatest();
        fineIsRefused();
        fineRanges();
        eightFines();
        forgiveAll();
        judgeBoundJustSo();
        judgeOnTheirDays();
        unwrittenAnswersNone();
        unwrittenThirtyDays();
        unwrittenToldLater();
        unwrittenAllFines();
        unwrittenIsNotAsked();
        imageIsRefused();
        backIsRefused();
        imagesKeep();
        imagesKeepAll();
        imagesKeepFines();
        imagesDoNotKeep();
        imagesStay();
        countAnswersNone();
        countRefused();
        countTheRest();
        statusAheadOfAny();
        statusOfTheLatest();
        statusOfOthers();
        refusedCallsChangeNothing();
        firstInThatOrder();
        close();
    }

    private static void tape(FadingActs x, int... bytes) {
        byte[] b = new byte[bytes.length];
        for (int i = 0; i < b.length; i++) b[i] = (byte) bytes[i];
        Due.tape(x, b);
    }

    private static void rowIsRefused() {
        says("Promise 12", "-6 the TAPE is empty.");
        FadingActs x = new FadingActs();
        be("row()", x.row(), -6);
        tape(x, 1);
        be("row(), a byte", x.row(), 0);
        be("status()", x.status(), 0);
        be("row(), empty then", x.row(), -6);
        x.feed(0, 0, 0, 0, 0);
        x.end(0);
        be("row(), cut to nothing", x.row(), -6);
        be("count(10)", x.count(10), 3);
        FadingActs y = plain(8, 1, 1);
        be("row(), empty, no room either", y.row(), -6);
    }

    private static void rowsByFours() {
        says("Promise 12", "A ROW, the TAPE is empty then: how many ACTS came.");
        FadingActs x = new FadingActs();
        tape(x, 1, 1, 1, 0, 60, 30, 63, 0, 2, 3, 4, 2);
        be("row()", x.row(), 3);
        be("count(5)", x.count(5), 0);
        be("count(0)", x.count(0), 3);
        be("of(1, .)", x.of(1, 0) * 10000 + x.of(1, 1) * 100 + x.of(1, 2), 603063);
        be("of(2, .)", x.of(2, 0) * 10000 + x.of(2, 1) * 100 + x.of(2, 2), 20304);
        be("of(2, 3)", x.of(2, 3), 1);
        tape(x, 5, 5, 5, 3);
        be("row(), behind others", x.row(), 1);
        be("of(3, 3)", x.of(3, 3), 2);
        byte[] mud = new byte[400];
        Due.tape(x, mud);
        be("row() of 400 bytes", x.row(), 0);
        be("mud()", x.mud(), 100);
        mud[396] = mud[397] = mud[398] = 9;
        Due.tape(x, mud);
        be("row(), the last four of 400", x.row(), 1);
        be("mud()", x.mud(), 99);
    }

    private static void rowsNeeds() {
        says("IV, Promise 12", "NEEDS (0: none, else one more than the ACT): an ACT");
        FadingActs x = new FadingActs();
        tape(x, 1, 1, 1, 0, 1, 1, 1, 1, 1, 1, 1, 2, 1, 1, 1, 1);
        be("row()", x.row(), 4);
        int[] due = {-1, 0, 1, 0};
        for (int a = 0; a < 4; a++) be("of(" + a + ", 3)", x.of(a, 3), due[a]);
        for (int needs : new int[] {5, 6, 8, 9, 127, 128, 255}) {
            tape(x, 1, 1, 1, needs);
            be("row(), NEEDS " + needs, x.row(), 0);
            be("mud()", x.mud(), 1);
        }
        tape(x, 1, 1, 1, 6, 1, 1, 1, 5, 1, 1, 1, 4);
        be("row(), itself and one that comes behind", x.row(), 1);
        be("mud()", x.mud(), 2);
        be("of(4, 3)", x.of(4, 3), 3);
    }

    private static void rowsMud() {
        says("IV, Promises 12, 13", "one that can't be, one within which the TAPE ends, one for which there is no room is MUD: none.");
        int[][] bad = {{0, 1, 1, 0}, {61, 1, 1, 0}, {255, 1, 1, 0}, {1, 0, 1, 0}, {1, 31, 1, 0}, {1, 255, 1, 0}, {1, 1, 0, 0}, {1, 1, 64, 0},
            {1, 1, 255, 0}, {1, 1, 1, 1}, {1, 1, 1, 255}, {0, 0, 0, 0}};
        for (int[] four : bad) {
            FadingActs x = new FadingActs();
            tape(x, four);
            String told = four[0] + ", " + four[1] + ", " + four[2] + ", " + four[3];
            be("row() of " + told, x.row(), 0);
            be("mud() of " + told, x.mud(), 1);
            be("count(0) of " + told, x.count(0), 0);
            be("status() of " + told, x.status(), 0);
            tape(x, four[0], four[1], four[2], four[3], 1, 1, 1, 0);
            be("row(), another behind " + told, x.row(), 1);
            be("mud(), another behind " + told, x.mud(), 1);
        }
    }

    private static void rowsEndWithin() {
        says("IV, Promises 12, 13", "one within which the TAPE ends");
        for (int n = 1; n <= 9; n++) {
            FadingActs x = new FadingActs();
            int[] bytes = {1, 1, 1, 0, 1, 1, 1, 0, 1};
            tape(x, java.util.Arrays.copyOf(bytes, n));
            be("row() of " + n + " bytes", x.row(), n / 4);
            be("mud() of " + n + " bytes", x.mud(), n % 4 == 0 ? 0 : 1);
            be("count(5) of " + n + " bytes", x.count(5), 0);
        }
    }

    private static void rowsNoRoom() {
        says("IV, Promises 12, 13", "one for which there is no room is MUD");
        FadingActs x = plain(7, 1, 0);
        tape(x, 2, 2, 2, 0, 3, 3, 3, 0, 4, 4, 4, 8);
        be("row(), room for one", x.row(), 1);
        be("mud()", x.mud(), 2);
        be("of(7, 0)", x.of(7, 0), 2);
        tape(x, 5, 5, 5, 0);
        be("row(), no room", x.row(), 0);
        be("mud()", x.mud(), 1);
        be("status(), it is no refusal", x.status(), 0);
        be("count(9)", x.count(9), 0);
        be("count(0)", x.count(0), 8);
    }

    private static void mudOfTheLatest() {
        says("Promise 13", "How much MUD the latest row() had that was not REFUSED (0 ahead of any).");
        FadingActs x = new FadingActs();
        be("mud(), ahead of any", x.mud(), 0);
        x.row();
        be("mud(), that was REFUSED", x.mud(), 0);
        tape(x, 0, 0, 0, 0, 0);
        x.row();
        be("mud()", x.mud(), 2);
        x.row();
        be("mud(), REFUSED since", x.mud(), 2);
        tape(x, 1, 1, 1, 0);
        x.row();
        be("mud(), none", x.mud(), 0);
    }

    private static void fineIsRefused() {
        says("Promise 32", "A FINE: how many there are. -1; -2; -5.");
        FadingActs x = plain(2, 1, 0);
        for (int act : outside(0, 1)) be("fine(0, 0, " + act + ", 0)", x.fine(0, 0, act, 0), -2);
        be("fine(-1, 0, 9, 0), -1 ahead of -2", x.fine(-1, 0, 9, 0), -1);
        be("fine(0, 6, 9, 0), -1 ahead of -2", x.fine(0, 6, 9, 0), -1);
        be("fine(0, 0, 9, 2), -1 ahead of -2", x.fine(0, 0, 9, 2), -1);
        for (int i = 1; i <= 8; i++) be("fine()", x.fine(0, 0, 1, 0), i);
        be("fine(), -2 ahead of -5", x.fine(0, 0, 2, 0), -2);
        be("fine(), -1 ahead of -5", x.fine(1000, 0, 0, 0), -1);
        be("fine(), no room", x.fine(0, 0, 0, 0), -5);
        be("count(3)", x.count(3), 8);
    }

    private static void fineRanges() {
        says("I, Promise 32", "on a DAY a CLASS was (1), was not (0) bound by an ACT.");
        FadingActs x = plain(1, 1, 0);
        for (int day : outside(0, 999)) be("fine(" + day + ", 0, 0, 0)", x.fine(day, 0, 0, 0), -1);
        for (int kind : outside(0, 5)) be("fine(0, " + kind + ", 0, 0)", x.fine(0, kind, 0, 0), -1);
        for (int is : outside(0, 1)) be("fine(0, 0, 0, " + is + ")", x.fine(0, 0, 0, is), -1);
        be("count(3)", x.count(3), 0);
        be("fine(0, 0, 0, 0)", x.fine(0, 0, 0, 0), 1);
        be("fine(999, 5, 0, 1)", x.fine(999, 5, 0, 1), 2);
        be("judge()", x.judge(), 0);
    }

    private static void eightFines() {
        says("I, Promise 32", "FINES, 8 at most");
        FadingActs x = plain(1, 1, 1);
        for (int i = 1; i <= 8; i++) be("fine()", x.fine(0, 0, 0, i == 8 ? 1 : 0), i);
        be("the ninth", x.fine(0, 0, 0, 0), -5);
        be("judge(), the eighth counts", x.judge(), 0);
        be("forgive()", x.forgive(), 8);
        for (int i = 1; i <= 8; i++) be("fine() anew", x.fine(0, 0, 0, 1), i);
        x.read(0, 0);
        be("judge()", x.judge(), 1);
        be("unwritten(-1)", x.unwritten(-1), 1);
    }

    private static void forgiveAll() {
        says("Promise 33", "FINES are none then: how many there were.");
        FadingActs x = plain(1, 1, 1);
        be("forgive(), none", x.forgive(), 0);
        x.fine(0, 0, 0, 1);
        be("judge()", x.judge(), 0);
        be("forgive()", x.forgive(), 1);
        be("count(3)", x.count(3), 0);
        be("judge(), none", x.judge(), 1);
        be("forgive(), none", x.forgive(), 0);
    }

    private static void judgeBoundJustSo() {
        says("III, Promise 34", "FINES are so, if on their DAYS those are BOUND just so.");
        be("judge(), no FINES", new FadingActs().judge(), 1);
        FadingActs x = new FadingActs();
        x.act(1, 3, 5);
        x.act(1, 3, 2);
        x.reader(9, 0);
        x.read(0, 0);
        int[][] fines = {{0, 0, 0, 1, 1}, {0, 0, 0, 0, 0}, {0, 1, 0, 1, 0}, {0, 1, 0, 0, 1}, {0, 2, 0, 1, 1}, {0, 1, 1, 1, 0}, {0, 1, 1, 0, 1}, {2, 0, 0, 1, 1},
            {2, 0, 0, 0, 0}, {3, 0, 0, 1, 0}, {3, 0, 0, 0, 1}, {999, 5, 1, 0, 1}};
        for (int[] f : fines) {
            x.fine(f[0], f[1], f[2], f[3]);
            be("judge() of " + f[0] + ", " + f[1] + ", " + f[2] + ", " + f[3], x.judge(), f[4]);
            x.forgive();
        }
        for (int wrong = 0; wrong < 8; wrong++) {
            for (int i = 0; i < 8; i++) x.fine(0, 0, 0, i == wrong ? 0 : 1);
            be("judge(), all but that of " + wrong, x.judge(), 0);
            x.forgive();
        }
    }

    private static void judgeOnTheirDays() {
        says("Promise 34", "Whether all FINES are so (1, 0).");
        FadingActs x = plain(1, 2, 1);
        x.terms(0, 4);
        x.fine(3, 0, 0, 0);
        x.fine(4, 0, 0, 1);
        x.fine(5, 0, 0, 1);
        x.fine(6, 0, 0, 0);
        be("judge(), not read", x.judge(), 0);
        x.read(0, 0);
        be("judge(), read", x.judge(), 1);
        x.await();
        be("judge(), a DAY later", x.judge(), 1);
        x.put(0, 1, 3);
        be("judge(), another TERM", x.judge(), 0);
        x.put(0, 1, 2);
        x.put(0, 2, 2);
        be("judge(), it BINDS others", x.judge(), 0);
        x.put(0, 2, 3);
        be("judge(), it BINDS it again", x.judge(), 1);
        x.undo();
        be("judge(), undone", x.judge(), 0);
    }

    private static void unwrittenAnswersNone() {
        says("Promise 35", "UNWRITTEN: how many (i NONE), the i-th as DAYS ago times 32, READER times 8, ACT. NONE.");
        FadingActs x = plain(8, 1, 4);
        be("unwritten(-1)", x.unwritten(-1), 32);
        for (int i = 0; i < 32; i++) be("unwritten(" + i + ")", x.unwritten(i), i);
        for (int i : new int[] {32, 33, 959, 960, MAX, -2, -3, MIN}) be("unwritten(" + i + ")", x.unwritten(i), -1);
        be("unwritten(0), none", new FadingActs().unwritten(0), -1);
        be("unwritten(-1), no READER", plain(1, 1, 0).unwritten(-1), 0);
        be("unwritten(-1), no ACT", plain(0, 1, 1).unwritten(-1), 0);
    }

    private static void unwrittenThirtyDays() {
        says("III, Promise 35", "(on one of the 30 latest DAYS, this one too; told later than all others)");
        FadingActs x = plain(8, 30, 4);
        for (int day : new int[] {0, 1, 28, 29, 30, 999}) {
            x.terms(0, day);
            int days = Math.min(30, day + 1);
            be("unwritten(-1) on DAY " + day, x.unwritten(-1), 32 * days);
            be("unwritten(last) on DAY " + day, x.unwritten(32 * days - 1), 32 * days - 1);
            be("unwritten(beyond) on DAY " + day, x.unwritten(32 * days), -1);
        }
        FadingActs y = plain(1, 30, 1);
        y.terms(0, 100);
        y.fine(71, 0, 0, 1);
        be("unwritten(-1), the DAY 29 ago", y.unwritten(-1), 1);
        be("unwritten(0), the DAY 29 ago", y.unwritten(0), 29 * 32);
        y.forgive();
        y.fine(70, 0, 0, 1);
        be("unwritten(-1), the DAY 30 ago", y.unwritten(-1), 0);
        y.forgive();
        y.fine(129, 0, 0, 1);
        be("unwritten(-1), this DAY's is LASTING up to 129", y.unwritten(-1), 1);
        be("unwritten(0)", y.unwritten(0), 0);
        y.forgive();
        y.fine(130, 0, 0, 1);
        be("unwritten(-1), a DAY more", y.unwritten(-1), 0);
    }

    private static void unwrittenToldLater() {
        says("III, Promise 35", "told later than all others) by which all FINES are so.");
        FadingActs x = plain(1, 5, 2);
        Due.force(x, "lasts 2 if reader = 1");
        x.terms(0, 10);
        x.read(0, 0);
        x.terms(0, 20);
        x.fine(13, 0, 0, 0);
        x.fine(10, 0, 0, 1);
        // Reader 1's lasts two days: on 10, 11 it takes that of 10 away from 13; one of 9 would not.
        be("unwritten(-1)", x.unwritten(-1), 2);
        be("unwritten(0)", x.unwritten(0), 9 * 32 + 8);
        be("unwritten(1), the same DAY, told later", x.unwritten(1), 10 * 32 + 8);
        x.forgive();
        x.fine(14, 0, 0, 1);
        x.fine(15, 0, 0, 0);
        be("judge()", x.judge(), 1);
        // By READER 0 on 10 or ahead of it, on 16 or later; by READER 1 but for 11, 12, 14 .. (13 and 12 take 14 away or not).
        int found = 0;
        for (int day = 0; day <= 20; day++) {
            if (day <= 10 || day > 15) found++;
            if (day < 10 || day == 13 || day > 15) found++;
        }
        be("unwritten(-1)", x.unwritten(-1), found);
    }

    private static void unwrittenAllFines() {
        says("III, Promise 35", "UNWRITTEN: one reading more");
        FadingActs x = plain(2, 3, 1);
        x.terms(0, 9);
        x.fine(5, 0, 0, 1);
        x.fine(7, 0, 0, 1);
        be("unwritten(-1), one for both", x.unwritten(-1), 1);
        be("unwritten(0)", x.unwritten(0), 4 * 32);
        x.fine(8, 0, 0, 1);
        be("unwritten(-1), too far from each other", x.unwritten(-1), 0);
        x.forgive();
        x.fine(5, 0, 0, 1);
        x.fine(5, 0, 1, 1);
        be("unwritten(-1), two would be asked for", x.unwritten(-1), 0);
        x.forgive();
        x.fine(5, 0, 0, 1);
        x.fine(4, 0, 0, 0);
        x.fine(6, 0, 1, 0);
        be("unwritten(-1), on that very DAY", x.unwritten(-1), 1);
        x.forgive();
        x.fine(9, 1, 0, 1);
        be("unwritten(-1), it does not BIND it", x.unwritten(-1), 0);
        x.forgive();
        x.fine(9, 0, 0, 0);
        be("unwritten(-1), any that HOLDS no more, and ACT 1's", x.unwritten(-1), 7 + 10);
    }

    private static void unwrittenIsNotAsked() {
        says("III, Promise 35", "one reading more (on one of the 30 latest DAYS, this one too;");
        FadingActs x = full(1, 1, 1);
        x.fine(24, 0, 0, 1);
        be("unwritten(-1), the LOG has room on paper", x.unwritten(-1), 1);
        Due.force(x, "lasts 0");
        be("unwritten(-1), LASTS 0", x.unwritten(-1), 0);
        be("count(2)", x.count(2), 24);
    }

    private static void imageIsRefused() {
        says("Promise 38", "IMAGE k is kept: 0; -1.");
        FadingActs x = new FadingActs();
        for (int k : outside(0, 1)) be("image(" + k + ")", x.image(k), -1);
        be("image(0)", x.image(0), 0);
        be("image(1)", x.image(1), 0);
        be("image(0), anew", x.image(0), 0);
    }

    private static void backIsRefused() {
        says("Promise 39", "BACK to IMAGE k: 0. -1; -2 it was not kept.");
        FadingActs x = new FadingActs();
        for (int k : outside(0, 1)) be("back(" + k + ")", x.back(k), -1);
        be("back(0)", x.back(0), -2);
        be("back(1)", x.back(1), -2);
        x.image(1);
        be("back(0), the other is kept", x.back(0), -2);
        be("back(1)", x.back(1), 0);
        x.image(0);
        be("back(0)", x.back(0), 0);
        be("back(1), it stays", x.back(1), 0);
    }

    private static void imagesKeep() {
        says("IV, Promise 39", "BACK to one all that it keeps is as it was then");
        for (int k = 0; k < 2; k++) {
            FadingActs x = rich();
            FadingActs twin = rich();
            x.image(k);
            spoil(x);
            be("back(" + k + ")", x.back(k), 0);
            twin.end(0);
            x.end(0);
            // What images don't keep is made alike.
            for (FadingActs one : new FadingActs[] {x, twin}) {
                Due.tape(one, "wait if");
                one.orders();
                one.feed(0, 0, 0, 0, 0);
                one.row();
                one.years(1, 1);
            }
            be("all that can be seen", seen(x), seen(twin));
        }
        FadingActs y = new FadingActs();
        y.image(0);
        spoil(y);
        y.back(0);
        for (int i = 0; i < 5; i++) be("count(" + i + "), a new object's", y.count(i), 0);
        be("act(), a new object's", y.act(1, 1, 1), 0);
        be("of(0, 3), a new object's", y.of(0, 3), -1);
        y.act(1, 1, 1);
        be("gainsay(0, 1, 0), a new object's", y.gainsay(0, 1, 0), 0);
    }

    /** Changes all that can be changed. */
    private static void spoil(FadingActs x) {
        x.undo();
        while (x.act(33, 3, 33) >= 0) x.forgive();
        while (x.reader(33, 3) >= 0) x.forgive();
        for (int a = 0; a < 8; a++) {
            x.put(a, 0, 59);
            x.put(a, 1, 29);
            x.put(a, 2, 62);
            x.put(a, 3, 7 - a);
            for (int b = 0; b < a; b++) x.gainsay(a, b, (a + b) % 2);
        }
        for (int w = 0; w < 7; w++) x.listen(w, 9 + w);
        x.terms(0, 555);
        x.terms(1, 9);
        x.terms(2, 59);
        x.terms(3, 9);
        while (Due.law(x, "lasts 77; takes 3") >= 0) x.forgive();
        x.force(5);
        for (int a = 0; a < 8; a++) x.put(a, 3, -1);
        for (int a = 0; a < 8; a++) x.read(a, 3);
        x.fine(9, 1, 7, 1);
    }

    /** Two republics that have as much of all, and nothing of it alike. */
    private static void found(FadingActs x, int k) {
        for (int a = 0; a < 3; a++) x.act(10 + a + 9 * k, 3 + a + 5 * k, 1 + a + 8 * k);
        x.put(1 + k, 3, 0);
        x.gainsay(0, 1 + k, 1);
        for (int r = 0; r < 2; r++) x.reader(50 + r + 20 * k, r + 2 * k);
        for (int w = 0; w < 7; w++) x.listen(w, 50 + w + k);
        x.terms(1, 3 + k);
        x.terms(2, 21 + k);
        x.terms(3, 4 + k);
        for (int i = 0; i < 3; i++) Due.law(x, "takes " + (i + 1 + 3 * k) + " if act = " + i);
        x.force(2 - k);
        x.terms(0, 2 + k);
        x.read(k, k);
        x.await();
        x.read(0, 1 - k);
        x.fine(4 + k, 1 - k, 2, 1 - k);
        x.fine(3 + k, k, 1 + k, k);
    }

    private static void imagesKeepAll() {
        says("Promise 39", "BACK to IMAGE k: 0.");
        for (int k = 0; k < 2; k++) {
            for (int kept = 0; kept < 2; kept++) {
                FadingActs x = new FadingActs();
                x.image(1 - kept);
                found(x, k);
                x.image(kept);
                be("back() to a new object's", x.back(1 - kept), 0);
                be("count(0)", x.count(0), 0);
                found(x, 1 - k);
                be("back()", x.back(kept), 0);
                FadingActs twin = new FadingActs();
                found(twin, k);
                be("all that can be seen", seen(x), seen(twin));
                for (int law = 0; law < 3; law++) {
                    be("force(" + law + ")", x.force(law), twin.force(law));
                    for (int a = 0; a < 3; a++) be("asks(" + a + ", 0, 1)", x.asks(a, 0, 1), twin.asks(a, 0, 1));
                }
                be("force(3)", x.force(3), -2);
                be("unwritten(0)", x.unwritten(0), twin.unwritten(0));
                be("forgive()", x.forgive(), 2);
            }
        }
    }

    /** A FINE that is kept is as it was: what one reading makes it so tells of its DAY, CLASS, ACT, and whether. */
    private static void imagesKeepFines() {
        says("IV, Promise 39", "all that it keeps is as it was then");
        FadingActs x = new FadingActs();
        x.act(1, 2, 1);
        x.act(1, 3, 2);
        x.reader(9, 0);
        x.terms(0, 20);
        x.fine(9, 1, 1, 1);
        x.fine(5, 0, 0, 1);
        x.fine(5, 1, 0, 0);
        x.image(0);
        x.forgive();
        x.fine(5, 0, 0, 0);
        x.fine(9, 1, 1, 0);
        x.fine(3, 0, 1, 1);
        x.back(0);
        be("unwritten(-1), two lack", x.unwritten(-1), 0);
        x.terms(0, 5);
        x.read(0, 0);
        x.terms(0, 20);
        be("unwritten(-1), one lacks", x.unwritten(-1), 3);
        for (int i = 0; i < 3; i++) be("unwritten(" + i + ")", x.unwritten(i), (11 + i) * 32 + 1);
        x.undo();
        x.terms(0, 8);
        x.read(1, 0);
        x.terms(0, 20);
        be("unwritten(-1), the other lacks", x.unwritten(-1), 2);
        for (int i = 0; i < 2; i++) be("unwritten(" + i + ")", x.unwritten(i), (15 + i) * 32);
        x.back(0);
        be("count(2)", x.count(2), 0);
    }

    private static void imagesDoNotKeep() {
        says("IV, Promises 38, 39", "IMAGES 0, 1 keep all but the TAPE, FAULT, MUD, where ORDERS stopped, the latest YEARS");
        FadingActs x = plain(2, 1, 1);
        x.image(0);
        Due.orders(x, "wait; read 9 by 9");
        Due.law(x, "lasts");
        tape(x, 0, 0, 0, 0, 0);
        x.row();
        x.years(1, 7);
        tape(x, 1, 2, 3);
        int drawn = x.drawn(1, 0);
        be("back(0)", x.back(0), 0);
        be("count(5)", x.count(5), 3);
        be("fault()", x.fault(), 5);
        be("mud()", x.mud(), 2);
        be("stopped()", x.stopped(), 1);
        be("drawn(1, 0)", x.drawn(1, 0), drawn);
        be("drawn(0, 0) and drawn(1, 0)", x.drawn(0, 0) + x.drawn(1, 0), 7);
        x.end(0);
        x.image(1);
        tape(x, 1, 2);
        x.back(1);
        be("count(5), the TAPE was empty then", x.count(5), 2);
    }

    private static void imagesStay() {
        says("IV, Promise 39", "(IMAGES stay)");
        FadingActs x = plain(1, 1, 1);
        x.image(0);
        x.act(2, 2, 2);
        x.image(1);
        x.act(3, 3, 3);
        for (int i = 0; i < 3; i++) {
            be("back(0)", x.back(0), 0);
            be("count(0)", x.count(0), 1);
            x.put(0, 0, 50);
            x.read(0, 0);
            be("back(1)", x.back(1), 0);
            be("count(0)", x.count(0), 2);
            be("of(0, 0)", x.of(0, 0), 1);
            be("count(2)", x.count(2), 0);
            x.put(1, 0, 50);
        }
        x.back(0);
        x.image(1);
        x.act(9, 9, 9);
        x.back(1);
        be("count(0), kept anew", x.count(0), 1);
        be("status()", x.status(), 0);
    }

    private static void countAnswersNone() {
        says("Promise 40", "12 .. 15 TERMS 0 .. 3. NONE for others.");
        FadingActs x = new FadingActs();
        for (int what : outside(0, 15)) be("count(" + what + ")", x.count(what), -1);
        be("count(15)", x.count(15), 0);
        be("count(0)", x.count(0), 0);
        be("status()", x.status(), 0);
    }

    private static void countRefused() {
        says("Promise 40", "6 .. 10 how many calls were REFUSED by -1, -2, -3, -5, -6 (IMAGES do not keep that)");
        FadingActs x = new FadingActs();
        x.image(0);
        x.image(9);
        for (int i = 0; i < 2; i++) x.back(1);
        for (int i = 0; i < 3; i++) x.undo();
        for (int i = 0; i < 12; i++) x.act(1, 1, 1);
        for (int i = 0; i < 5; i++) x.row();
        for (int i = 0; i < 5; i++) be("count(" + (6 + i) + ")", x.count(6 + i), i + 1);
        x.back(0);
        for (int i = 0; i < 5; i++) be("count(" + (6 + i) + ") behind back(0)", x.count(6 + i), i + 1);
        be("count(0) behind back(0)", x.count(0), 0);
        x.of(9, 9);
        x.throat(9, 9);
        x.feed(0, 0, 0, 0, 0);
        x.end(99);
        x.held(-1);
        x.bound(9, 9);
        x.mornings(9, 9, 9, 9, 9);
        x.game(9, 9, 9, 9, 9, 9);
        x.throats(0, 0);
        x.days(0, 0);
        x.likely(9, 9, 9);
        x.unwritten(9);
        x.drawn(9, 9);
        x.log(9, 9);
        x.asks(9, 9, 9);
        x.count(99);
        for (int i = 0; i < 5; i++) be("count(" + (6 + i) + "), NONE is no refusal", x.count(6 + i), i + 1);
        Due.orders(x, "read 9 by 9");
        be("count(7), orders() are one call", x.count(7), 2);
        be("count(8), orders() are one call", x.count(8), 4);
    }

    private static void countTheRest() {
        says("Promise 40", "0 ACTS, 1 READERS, 2 readings in the LOG, 3 FINES, 4 LAWS, 5 bytes of the TAPE");
        FadingActs x = plain(8, 1, 4);
        for (int i = 0; i < 3; i++) x.read(i, 0);
        for (int i = 0; i < 5; i++) x.fine(0, 0, 0, 0);
        for (int i = 0; i < 6; i++) Due.law(x, "bars");
        for (int i = 0; i < 20; i++) x.feed(0, 0, 0, 0, 0);
        x.force(4);
        int[] due = {8, 4, 3, 5, 6, 400, 0, 0, 0, 0, 0, 4, 0, 3, 20, 0};
        for (int i = 0; i < due.length; i++) be("count(" + i + ")", x.count(i), due[i]);
        x.terms(0, 999);
        be("count(12)", x.count(12), 999);
    }

    private static void statusAheadOfAny() {
        says("Promise 41", "0 if it was not, or ahead of any.");
        FadingActs x = new FadingActs();
        be("status()", x.status(), 0);
        x.of(0, 0);
        be("status(), of() is none of those", x.status(), 0);
        x.back(0);
        be("status()", x.status(), -2);
        x.image(0);
        be("status(), image() was not", x.status(), 0);
    }

    /** A call, and what it answers. */
    private interface Call { long on(FadingActs x); }

    private static void statusOfTheLatest() {
        says("Promise 41", "What the latest call of act, put, gainsay, reader, listen, terms, row, law, orders, force, read, undo, await, fine, years, image, back");
        Call[] good = {x -> x.act(1, 1, 1), x -> x.put(0, 0, 5), x -> x.gainsay(0, 1, 1), x -> x.reader(9, 0), x -> x.listen(0, 63), x -> x.terms(1, 5),
            x -> row(x), x -> Due.law(x, "bars"), x -> Due.orders(x, "wait"), x -> x.force(-1), x -> x.read(0, 0), x -> readAndUndo(x), x -> x.await(),
            x -> x.fine(0, 0, 0, 0), x -> x.years(0, 1), x -> x.image(0), x -> imageAndBack(x)};
        Call[] bad = {x -> x.act(0, 1, 1), x -> x.put(0, 0, 0), x -> x.gainsay(0, 0, 1), x -> x.reader(0, 0), x -> x.listen(0, 64), x -> x.terms(1, 11),
            x -> x.row(), x -> Due.law(x, "bar"), x -> Due.orders(x, "wai"), x -> x.force(9), x -> x.read(9, 0), x -> x.undo(), x -> lastAwait(x),
            x -> x.fine(0, 6, 0, 0), x -> x.years(0, 0), x -> x.image(2), x -> x.back(1)};
        int[] why = {-1, -1, -1, -1, -1, -1, -6, -6, -6, -2, -2, -3, -3, -1, -1, -1, -2};
        for (int i = 0; i < good.length; i++) {
            for (int j = 0; j < bad.length; j++) {
                FadingActs x = plain(2, 1, 1);
                be("bad call " + j, bad[j].on(x), why[j]);
                be("status() of bad call " + j, x.status(), why[j]);
                if (j == 12) x.terms(0, 0);
                be("good call " + i, good[i].on(x) >= -1 ? 1 : 0, 1);
                be("status() of good call " + i, x.status(), 0);
                bad[j].on(x);
                be("status() of bad call " + j + " again", x.status(), j == 11 && i == 10 ? 0 : why[j]);
            }
        }
    }

    private static int row(FadingActs x) {
        tape(x, 0);
        return x.row();
    }

    private static int readAndUndo(FadingActs x) {
        x.read(0, 0);
        return x.undo();
    }

    private static int imageAndBack(FadingActs x) {
        x.image(0);
        return x.back(0);
    }

    private static int lastAwait(FadingActs x) {
        x.terms(0, 999);
        return x.await();
    }

    private static void statusOfOthers() {
        says("Promise 41", "was REFUSED by; 0 if it was not");
        FadingActs x = plain(2, 1, 2);
        x.undo();
        Call[] others = {y -> y.of(0, 0), y -> y.of(9, 0), y -> y.throat(0, 0), y -> y.throat(9, 0), y -> y.feed(0, 0, 0, 0, 0), y -> y.end(3), y -> y.end(9), y -> y.mud(),
            y -> y.fault(), y -> y.stopped(), y -> y.asks(0, 0, 0), y -> y.asks(9, 0, 0), y -> y.log(0, 0), y -> y.held(0), y -> y.held(-1), y -> y.bound(0, 0),
            y -> y.bound(9, 0), y -> y.mornings(1, 0, 0, 1, -1), y -> y.mornings(9, 0, 0, 1, -1), y -> y.game(0, 0, 0, 1, 1, 0), y -> y.game(0, 0, 0, 0, 1, 0),
            y -> y.dead(), y -> y.throats(1, 0), y -> y.throats(0, 0), y -> y.days(1, -1), y -> y.days(0, -1), y -> y.likely(0, 0, 0), y -> y.likely(9, 0, 0),
            y -> y.forgive(), y -> y.judge(), y -> y.unwritten(-1), y -> y.unwritten(999), y -> y.drawn(0, 0), y -> y.count(0), y -> y.count(99), y -> y.status()};
        for (int i = 0; i < others.length; i++) {
            others[i].on(x);
            be("status() behind other call " + i, x.status(), -3);
        }
        be("count(8)", x.count(8), 1);
    }

    private static void refusedCallsChangeNothing() {
        says("I, Promises 2 to 39", "REFUSED by: -1 a number that can't be; -2 there is no such ACT, READER, LAW, IMAGE; -3 it can't be by what stands; -5 no room; -6 a TEXT, a ROW that can't be.");
        Call[] refused = {x -> x.act(0, 1, 1), x -> x.act(1, 31, 1), x -> x.put(0, 0, 61), x -> x.put(0, 3, 0), x -> x.put(0, 3, 7), x -> x.put(7, 0, 1), x -> x.put(0, 4, 1),
            x -> x.gainsay(0, 1, 2), x -> x.gainsay(1, 1, 0), x -> x.gainsay(0, 6, 1), x -> x.gainsay(6, 0, 0), x -> x.reader(0, 0), x -> x.reader(1, 6),
            x -> x.listen(7, 0), x -> x.listen(0, 64), x -> x.terms(0, 3), x -> x.terms(0, 1000), x -> x.terms(4, 1), x -> x.terms(2, 0), x -> x.force(2),
            x -> x.force(-2), x -> x.read(9, 0), x -> x.read(0, 9), x -> x.read(2, 1), x -> x.read(1, 0), x -> x.fine(1000, 0, 0, 0), x -> x.fine(0, 0, 9, 0),
            x -> x.years(-1, 1), x -> x.years(0, 61), x -> x.image(2), x -> x.back(2), x -> x.back(0)};
        for (int i = 0; i < refused.length; i++) {
            FadingActs x = rich();
            FadingActs twin = rich();
            long why = refused[i].on(x);
            be("call " + i + " is refused", why < 0 && x.status() == why ? 1 : 0, 1);
            be("call " + i + " is counted", x.count(6) + x.count(7) + x.count(8), twin.count(6) + twin.count(7) + twin.count(8) + 1);
            be("call " + i + " changes nothing", seen(x), seen(twin));
        }
        changesNothingButTheTape();
        changesNothingWithoutRoom();
    }

    private static void changesNothingButTheTape() {
        FadingActs x = rich();
        FadingActs twin = rich();
        Due.orders(x, "wait if");
        Due.orders(twin, "wait  if 7");
        twin.feed(0, 0, 0, 0, 0);
        twin.end(0);
        be("a FAULT changes but where it is", x.fault() + 3, twin.fault());
        be("row() of nothing", x.row(), -6);
        be("law() of nothing", x.law(), -6);
        Due.law(twin, "");
        be("all that can be seen", seen(x), seen(twin));
    }

    private static void changesNothingWithoutRoom() {
        FadingActs x = full(8, 1, 2);
        FadingActs twin = full(8, 1, 2);
        for (FadingActs one : new FadingActs[] {x, twin}) {
            for (int i = 0; i < 6; i++) Due.law(one, "lasts " + (i + 1));
            for (int i = 0; i < 8; i++) one.fine(i, 0, i, 1);
        }
        be("act(), no room", x.act(9, 9, 9), -5);
        be("law(), no room", Due.law(x, "lasts 9"), -5);
        be("read(), no room", x.read(7, 1), -5);
        be("fine(), no room", x.fine(9, 5, 0, 0), -5);
        be("orders(), no room", Due.orders(x, "wait; read 1 by 1"), -5);
        Due.orders(x, "read 9 by 9");
        Due.orders(twin, "read 9 by 9");
        be("all that can be seen", seen(x), seen(twin));
        FadingActs y = plain(2, 1, 4);
        be("reader(), no room", y.reader(9, 5), -5);
        be("all that can be seen then", seen(y), seen(plain(2, 1, 4)));
    }

    private static void firstInThatOrder() {
        says("I, Promises 2 to 39", "The first of these in that order.");
        FadingActs x = full(8, 1, 4);
        for (int i = 0; i < 8; i++) x.fine(0, 0, 0, 0);
        be("act(0, 1, 1), -1 and -5", x.act(0, 1, 1), -1);
        be("put(9, 0, 0), -1 and -2", x.put(9, 0, 0), -1);
        be("put(9, 3, 9), -1 and -2", x.put(9, 3, 9), -1);
        be("put(-1, 3, -1), -1 and -2", x.put(-1, 3, -1), -1);
        be("put(0, 3, -3), -1 and -2", x.put(0, 3, -3), -1);
        be("gainsay(9, 9, 1), -1 and -2", x.gainsay(9, 9, 1), -1);
        be("gainsay(0, 9, 2), -1 and -2", x.gainsay(0, 9, 2), -1);
        be("reader(0, 0), -1 and -5", x.reader(0, 0), -1);
        be("terms(0, -1), -1 and -3", x.terms(0, -1), -1);
        be("read(9, 0), -2 and -5", x.read(9, 0), -2);
        x.put(0, 3, 1);
        be("read(0, 0), -3 and -5", x.read(0, 0), -3);
        be("read(0, 9), -2 and -3 and -5", x.read(0, 9), -2);
        be("fine(0, 6, 9, 0), -1 and -2 and -5", x.fine(0, 6, 9, 0), -1);
        be("fine(0, 0, 9, 0), -2 and -5", x.fine(0, 0, 9, 0), -2);
        be("orders(), -3 and -5", Due.orders(x, "read 0 by 0"), -3);
        be("years(-1, 1), -1 and -3", new FadingActs().years(-1, 1), -1);
        be("back(2), -1 and -2", x.back(2), -1);
        for (int i = 0; i < 6; i++) Due.law(x, "bars");
        be("law(), -5 ahead of -6", Due.law(x, "bar"), -5);
    }
}
