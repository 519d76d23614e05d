/** The sentences of I and of promises 1 to 9 that name an edge. */
public final class EdgesOfActsTest extends Edges {
    public static void main(String[] args) {
        aNewObject();
        eightActs();
        lengths();
        termsOfActs();
        binds();
        actIsRefused();
        putsAnswer();
        putRefusesNumbers();
        putRefusesItself();
        putRefusesWhatIsNotThere();
        needsNoneAtFirst();
        ofAnswersNone();
        daysSince();
        holdsOrNot();
        gainsayingNoneAtFirst();
        gainsayingBothWays();
        gainsayIsRefused();
        fourReaders();
        voices();
        classes();
        readerIsRefused();
        throatAnswersNone();
        whatIsLeftThisDay();
        listenersAtFirst();
        weekdaysWrap();
        listenIsRefused();
        termsAtFirst();
        termsRanges();
        termsAnswer();
        aDayAheadOfTheLog();
        close();
    }

    private static void aNewObject() {
        says("Promise 1", "A market without acts.");
        FadingActs x = new FadingActs();
        be("count(0)", x.count(0), 0);
        be("of(0, 0)", x.of(0, 0), -1);
        be("put(0, 0, 1)", x.put(0, 0, 1), -2);
        be("undo()", x.undo(), -3);
        for (int i = 1; i < 6; i++) be("count(" + i + ")", x.count(i), 0);
        be("throat(0, 0)", x.throat(0, 0), -1);
        be("back(0)", x.back(0), -2);
        be("back(1)", x.back(1), -2);
    }

    private static void eightActs() {
        says("I, Promise 2", "ACTS 0 .. 7 (8 at most)");
        FadingActs x = new FadingActs();
        for (int i = 0; i < 8; i++) be("act() " + i, x.act(1, 1, 1), i);
        be("the ninth", x.act(1, 1, 1), -5);
        be("count(0)", x.count(0), 8);
        be("of(7, 0)", x.of(7, 0), 1);
        be("of(8, 0)", x.of(8, 0), -1);
    }

    private static void lengths() {
        says("I, Promises 2, 3", "LENGTH 1 .. 60");
        FadingActs x = new FadingActs();
        for (int n : outside(1, 60)) be("act(" + n + ", 1, 1)", x.act(n, 1, 1), -1);
        be("act(1, 1, 1)", x.act(1, 1, 1), 0);
        be("act(60, 1, 1)", x.act(60, 1, 1), 1);
        for (int n : outside(1, 60)) be("put(0, 0, " + n + ")", x.put(0, 0, n), -1);
        be("put(0, 0, 60)", x.put(0, 0, 60), 1);
        be("put(0, 0, 1)", x.put(0, 0, 1), 60);
    }

    private static void termsOfActs() {
        says("I, Promises 2, 3", "TERM 1 .. 30");
        FadingActs x = new FadingActs();
        for (int n : outside(1, 30)) be("act(1, " + n + ", 1)", x.act(1, n, 1), -1);
        be("act(1, 1, 1)", x.act(1, 1, 1), 0);
        be("act(1, 30, 1)", x.act(1, 30, 1), 1);
        for (int n : outside(1, 30)) be("put(0, 1, " + n + ")", x.put(0, 1, n), -1);
        be("put(0, 1, 30)", x.put(0, 1, 30), 1);
        be("put(0, 1, 1)", x.put(0, 1, 1), 30);
    }

    private static void binds() {
        says("I, Promises 2, 3, 25", "BINDS some of CLASSES 0 .. 5 (bits)");
        FadingActs x = new FadingActs();
        for (int n : outside(1, 63)) be("act(1, 1, " + n + ")", x.act(1, 1, n), -1);
        be("act(1, 1, 1)", x.act(1, 1, 1), 0);
        be("act(1, 1, 63)", x.act(1, 1, 63), 1);
        for (int n : outside(1, 63)) be("put(0, 2, " + n + ")", x.put(0, 2, n), -1);
        be("put(0, 2, 63)", x.put(0, 2, 63), 1);
        be("put(0, 2, 32)", x.put(0, 2, 32), 63);
        be("put(0, 2, 1)", x.put(0, 2, 1), 32);
    }

    private static void actIsRefused() {
        says("Promise 2", "An ACT: its number. -1; -5.");
        FadingActs x = plain(8, 1, 0);
        be("act(0, 1, 1), -1 ahead of -5", x.act(0, 1, 1), -1);
        be("act(1, 0, 1)", x.act(1, 0, 1), -1);
        be("act(1, 1, 0)", x.act(1, 1, 0), -1);
        be("act(1, 1, 1)", x.act(1, 1, 1), -5);
        be("count(6), count(9)", x.count(6) * 10 + x.count(9), 31);
        be("count(0)", x.count(0), 8);
    }

    private static void putsAnswer() {
        says("Promise 3", "of an ACT: what it was.");
        FadingActs x = new FadingActs();
        for (int a = 0; a < 8; a++) x.act(a + 1, a + 2, a + 3);
        for (int a = 0; a < 8; a++) {
            be("put(" + a + ", 0, 60)", x.put(a, 0, 60), a + 1);
            be("put(" + a + ", 1, 30)", x.put(a, 1, 30), a + 2);
            be("put(" + a + ", 2, 63)", x.put(a, 2, 63), a + 3);
            be("put(" + a + ", 3, .)", x.put(a, 3, 7 - a), -1);
            be("put(" + a + ", 3, NONE)", x.put(a, 3, -1), 7 - a);
            be("of(" + a + ", .)", x.of(a, 0) * 10000 + x.of(a, 1) * 100 + x.of(a, 2), 603063);
            be("of(" + a + ", 3)", x.of(a, 3), -1);
        }
        be("status()", x.status(), 0);
    }

    private static void putRefusesNumbers() {
        says("I, Promise 3", "-1 a number that can't be");
        FadingActs x = plain(2, 1, 0);
        for (int what : outside(0, 3)) be("put(0, " + what + ", 1)", x.put(0, what, 1), -1);
        for (int needs : new int[] {-2, -3, -1000, MIN}) {
            be("put(0, 3, " + needs + ")", x.put(0, 3, needs), -1);
            be("put(9, 3, " + needs + ")", x.put(9, 3, needs), -1);
        }
        for (int act : outside(0, 1)) {
            be("put(" + act + ", 4, 1), -1 ahead of -2", x.put(act, 4, 1), -1);
            be("put(" + act + ", 0, 0), -1 ahead of -2", x.put(act, 0, 0), -1);
            be("put(" + act + ", 1, 31), -1 ahead of -2", x.put(act, 1, 31), -1);
            be("put(" + act + ", 2, 64), -1 ahead of -2", x.put(act, 2, 64), -1);
        }
        be("of(0, 3)", x.of(0, 3), -1);
    }

    private static void putRefusesItself() {
        says("Promise 3", "-1 (itself, too)");
        FadingActs x = plain(8, 1, 0);
        for (int act = 0; act < 8; act++) be("put(" + act + ", 3, " + act + ")", x.put(act, 3, act), -1);
        for (int act : outside(0, 7)) be("put(" + act + ", 3, " + act + "), -1 ahead of -2", x.put(act, 3, act), -1);
        be("put(1, 1, 1), no NEEDS", x.put(1, 1, 1), 1);
        be("put(1, 2, 1), no NEEDS", x.put(1, 2, 1), 1);
        be("put(1, 0, 1), no NEEDS", x.put(1, 0, 1), 1);
    }

    private static void putRefusesWhatIsNotThere() {
        says("Promise 3", "-2 (what it NEEDS, too)");
        FadingActs x = plain(3, 1, 0);
        for (int act : outside(0, 2)) for (int what = 0; what < 3; what++) be("put(" + act + ", " + what + ", 1)", x.put(act, what, 1), -2);
        for (int act : outsideButNone(0, 2)) be("put(" + act + ", 3, NONE)", x.put(act, 3, -1), -2);
        for (int needs : new int[] {3, 4, 7, 8, 9, 1000, MAX}) be("put(0, 3, " + needs + ")", x.put(0, 3, needs), -2);
        be("put(3, 3, 0)", x.put(3, 3, 0), -2);
        be("put(0, 3, 2), the last that is there", x.put(0, 3, 2), -1);
        be("status()", x.status(), 0);
        be("of(0, 3)", x.of(0, 3), 2);
        be("put(0, 3, 3)", x.put(0, 3, 3), -2);
        be("of(0, 3) then", x.of(0, 3), 2);
    }

    private static void needsNoneAtFirst() {
        says("I, Promises 3, 4", "NEEDS another ACT or none (NONE at first)");
        FadingActs x = new FadingActs();
        for (int a = 0; a < 8; a++) {
            x.act(1, 1, 1);
            be("of(" + a + ", 3)", x.of(a, 3), -1);
        }
        be("put(0, 3, 7)", x.put(0, 3, 7), -1);
        be("put(7, 3, 0), a ring", x.put(7, 3, 0), -1);
        be("of(0, 3)", x.of(0, 3), 7);
        be("of(7, 3)", x.of(7, 3), 0);
        be("put(0, 3, NONE)", x.put(0, 3, -1), 7);
        be("of(0, 3) then", x.of(0, 3), -1);
    }

    private static void ofAnswersNone() {
        says("Promise 4", "whether it HOLDS (5: 1, 0). NONE.");
        FadingActs x = plain(2, 1, 1);
        x.read(0, 0);
        x.read(1, 0);
        for (int act : outside(0, 1)) for (int what = 0; what < 6; what++) be("of(" + act + ", " + what + ")", x.of(act, what), -1);
        for (int what : outside(0, 5)) be("of(0, " + what + ")", x.of(0, what), -1);
        be("of(1, 5)", x.of(1, 5), 1);
        be("count(6), no call of these is refused", x.count(6), 0);
    }

    private static void daysSince() {
        says("Promise 4", "DAYS since its latest reading on this DAY (4; NONE: none)");
        FadingActs x = plain(2, 1, 1);
        be("of(0, 4)", x.of(0, 4), -1);
        x.read(0, 0);
        be("of(0, 4), this DAY", x.of(0, 4), 0);
        be("of(1, 4), another", x.of(1, 4), -1);
        x.await();
        be("of(0, 4), a DAY later", x.of(0, 4), 1);
        x.terms(0, 999);
        be("of(0, 4), the last DAY", x.of(0, 4), 999);
        x.read(0, 0);
        be("of(0, 4), read anew", x.of(0, 4), 0);
        x.undo();
        be("of(0, 4), the one ahead of it", x.of(0, 4), 999);
        x.undo();
        be("of(0, 4), none", x.of(0, 4), -1);
    }

    private static void holdsOrNot() {
        says("III, Promises 4, 24", "It HOLDS, if that is less DAYS ago than it LASTS");
        for (int term = 1; term <= 30; term += 29) {
            FadingActs x = plain(1, term, 1);
            be("of(0, 5), not read", x.of(0, 5), 0);
            x.read(0, 0);
            be("of(0, 5), read", x.of(0, 5), 1);
            x.terms(0, term - 1);
            be("of(0, 5), its last DAY of " + term, x.of(0, 5), 1);
            x.terms(0, term);
            be("of(0, 5), a DAY more than " + term, x.of(0, 5), 0);
        }
        FadingActs y = plain(1, 1, 1);
        Due.force(y, "lasts 0");
        y.read(0, 0);
        be("of(0, 5), LASTS 0", y.of(0, 5), 0);
        be("held(0), LASTS 0", y.held(0), 0);
        Due.force(y, "lasts 99");
        y.terms(0, 98);
        be("of(0, 5), LASTS 99", y.of(0, 5), 1);
        y.terms(0, 99);
        be("of(0, 5), LASTS 99", y.of(0, 5), 0);
    }

    private static void gainsayingNoneAtFirst() {
        says("I, Promise 5", "GAINSAYING is told of pairs of unlike ACTS (none at first)");
        FadingActs x = plain(8, 1, 0);
        for (int a = 0; a < 8; a++) for (int b = 0; b < 8; b++) be("gainsay(" + a + ", " + b + ", 0)", x.gainsay(a, b, 0), a == b ? -1 : 0);
    }

    private static void gainsayingBothWays() {
        says("Promise 5", "Two ACTS GAINSAY each other (1), do not (0): what was.");
        FadingActs x = plain(8, 1, 0);
        be("gainsay(0, 7, 1)", x.gainsay(0, 7, 1), 0);
        be("gainsay(7, 0, 1)", x.gainsay(7, 0, 1), 1);
        be("gainsay(6, 7, 0), another pair", x.gainsay(6, 7, 0), 0);
        be("gainsay(0, 1, 0), another pair", x.gainsay(0, 1, 0), 0);
        be("gainsay(7, 0, 0)", x.gainsay(7, 0, 0), 1);
        be("gainsay(0, 7, 0)", x.gainsay(0, 7, 0), 0);
        be("gainsay(3, 4, 1)", x.gainsay(3, 4, 1), 0);
        be("gainsay(3, 4, 1) again", x.gainsay(3, 4, 1), 1);
        be("gainsay(3, 4, 0)", x.gainsay(3, 4, 0), 1);
    }

    private static void gainsayIsRefused() {
        says("Promise 5", "-1 (alike ones, too); -2.");
        FadingActs x = plain(3, 1, 0);
        for (int is : outside(0, 1)) be("gainsay(0, 1, " + is + ")", x.gainsay(0, 1, is), -1);
        for (int act : new int[] {0, 2, 3, 9, -1, MIN, MAX}) be("gainsay(" + act + ", the same, 1)", x.gainsay(act, act, 1), -1);
        be("gainsay(9, 0, 2), -1 ahead of -2", x.gainsay(9, 0, 2), -1);
        for (int act : outside(0, 2)) {
            be("gainsay(" + act + ", 0, 1)", x.gainsay(act, 0, 1), -2);
            be("gainsay(0, " + act + ", 0)", x.gainsay(0, act, 0), -2);
        }
        be("gainsay(2, 0, 0)", x.gainsay(2, 0, 0), 0);
    }

    private static void fourReaders() {
        says("I, Promise 6", "READERS 0 .. 3 (4 at most)");
        FadingActs x = new FadingActs();
        for (int i = 0; i < 4; i++) be("reader() " + i, x.reader(9, 1), i);
        be("the fifth", x.reader(9, 1), -5);
        be("count(1)", x.count(1), 4);
        be("throat(3, 0)", x.throat(3, 0), 9);
        be("throat(4, 0)", x.throat(4, 0), -1);
    }

    private static void voices() {
        says("I, Promise 6", "VOICE 1 .. 99 (minutes a DAY)");
        FadingActs x = new FadingActs();
        for (int n : outside(1, 99)) be("reader(" + n + ", 0)", x.reader(n, 0), -1);
        be("reader(1, 0)", x.reader(1, 0), 0);
        be("reader(99, 0)", x.reader(99, 0), 1);
        be("throat(0, 0)", x.throat(0, 0), 1);
        be("throat(1, 0)", x.throat(1, 0), 99);
    }

    private static void classes() {
        says("I, Promise 6", "CLASSES 0 .. 5");
        FadingActs x = new FadingActs();
        for (int n : outside(0, 5)) be("reader(1, " + n + ")", x.reader(1, n), -1);
        be("reader(1, 0)", x.reader(1, 0), 0);
        be("reader(1, 5)", x.reader(1, 5), 1);
        be("throat(0, 1)", x.throat(0, 1), 0);
        be("throat(1, 1)", x.throat(1, 1), 5);
    }

    private static void readerIsRefused() {
        says("Promise 6", "A READER: the number. -1; -5.");
        FadingActs x = plain(0, 1, 4);
        be("reader(0, 0), -1 ahead of -5", x.reader(0, 0), -1);
        be("reader(1, 6), -1 ahead of -5", x.reader(1, 6), -1);
        be("reader(1, 5)", x.reader(1, 5), -5);
        be("count(6), count(9)", x.count(6) * 10 + x.count(9), 21);
    }

    private static void throatAnswersNone() {
        says("Promise 7", "what is left of VOICE this DAY (2) of a READER. NONE.");
        FadingActs x = plain(1, 1, 2);
        for (int reader : outside(0, 1)) for (int what = 0; what < 3; what++) be("throat(" + reader + ", " + what + ")", x.throat(reader, what), -1);
        for (int what : outside(0, 2)) be("throat(0, " + what + ")", x.throat(0, what), -1);
        be("throat(1, 2)", x.throat(1, 2), 99);
    }

    private static void whatIsLeftThisDay() {
        says("I, Promise 7", "(minutes a DAY)");
        FadingActs x = new FadingActs();
        x.act(60, 5, 1);
        x.act(39, 5, 1);
        x.reader(99, 0);
        x.reader(60, 0);
        x.read(0, 0);
        be("throat(0, 2)", x.throat(0, 2), 39);
        be("throat(1, 2), another's", x.throat(1, 2), 60);
        x.read(1, 0);
        be("throat(0, 2), all of it", x.throat(0, 2), 0);
        be("throat(0, 0)", x.throat(0, 0), 99);
        x.await();
        be("throat(0, 2), the next DAY", x.throat(0, 2), 99);
        x.read(0, 1);
        be("throat(1, 2)", x.throat(1, 2), 0);
        x.undo();
        be("throat(1, 2), undone", x.throat(1, 2), 60);
    }

    private static void listenersAtFirst() {
        says("I, Promise 8", "CLASSES (bits; all at first)");
        FadingActs x = new FadingActs();
        for (int w = 0; w < 7; w++) {
            be("listen(" + w + ", 0)", x.listen(w, 0), 63);
            be("listen(" + w + ", 63)", x.listen(w, 63), 0);
        }
    }

    private static void weekdaysWrap() {
        says("I, Promises 8, 19", "LISTENERS of weekdays 0 .. 6 (DAY modulo 7)");
        FadingActs x = plain(1, 1, 1);
        for (int w = 0; w < 7; w++) x.listen(w, 62);
        x.listen(0, 1);
        int[] days = {0, 1, 6, 7, 8, 13, 14, 993, 994, 995, 999};
        for (int day : days) {
            x.terms(0, day);
            be("asks(0, 0, 3) on DAY " + day, x.asks(0, 0, 3), day % 7 == 0 ? 1 : 0);
        }
        x.listen(0, 62);
        x.listen(6, 1);
        for (int day : days) {
            x.terms(0, day);
            be("asks(0, 0, 3) on DAY " + day, x.asks(0, 0, 3), day % 7 == 6 ? 1 : 0);
        }
    }

    private static void listenIsRefused() {
        says("Promise 8", "LISTENERS of a weekday: what they were. -1.");
        FadingActs x = new FadingActs();
        for (int w : outside(0, 6)) be("listen(" + w + ", 1)", x.listen(w, 1), -1);
        for (int kinds : outside(0, 63)) be("listen(0, " + kinds + ")", x.listen(0, kinds), -1);
        be("listen(0, 0), none", x.listen(0, 0), 63);
        be("listen(0, 63), all", x.listen(0, 63), 0);
        be("listen(6, 1)", x.listen(6, 1), 63);
        be("listen(6, 2)", x.listen(6, 2), 1);
        be("listen(5, 2)", x.listen(5, 2), 63);
    }

    private static void termsAtFirst() {
        says("I, Promises 9, 40", "0 DAY 0 .. 999 (0 at first), 1 RAIN 0 .. 10 (3), 2 DRY 1 .. 60 (20), 3 MOOD 0 .. 9 (0)");
        FadingActs x = new FadingActs();
        int[] first = {0, 3, 20, 0};
        for (int what = 0; what < 4; what++) be("count(" + (12 + what) + ")", x.count(12 + what), first[what]);
        for (int what = 0; what < 4; what++) be("terms(" + what + ", 5)", x.terms(what, 5), first[what]);
        for (int what = 0; what < 4; what++) be("count(" + (12 + what) + ") then", x.count(12 + what), 5);
    }

    private static void termsRanges() {
        says("Promise 9", "A TERM: what it was. -1;");
        FadingActs x = new FadingActs();
        for (int what : outside(0, 3)) be("terms(" + what + ", 1)", x.terms(what, 1), -1);
        int[][] ranges = {{0, 999}, {0, 10}, {1, 60}, {0, 9}};
        for (int what = 0; what < 4; what++) {
            for (int n : outside(ranges[what][0], ranges[what][1])) be("terms(" + what + ", " + n + ")", x.terms(what, n), -1);
        }
        be("count(12) .. count(15)", x.count(12) + x.count(13) + x.count(14) + x.count(15), 23);
    }

    private static void termsAnswer() {
        says("Promise 9", "A TERM: what it was.");
        FadingActs x = new FadingActs();
        int[][] ranges = {{0, 999, 0}, {0, 10, 3}, {1, 60, 20}, {0, 9, 0}};
        for (int what = 0; what < 4; what++) {
            be("terms(" + what + ", highest)", x.terms(what, ranges[what][1]), ranges[what][2]);
            be("terms(" + what + ", lowest)", x.terms(what, ranges[what][0]), ranges[what][1]);
            be("terms(" + what + ", highest) again", x.terms(what, ranges[what][1]), ranges[what][0]);
        }
    }

    private static void aDayAheadOfTheLog() {
        says("Promise 9", "-3 (a DAY ahead of one in the LOG)");
        FadingActs x = plain(2, 1, 1);
        x.terms(0, 10);
        x.read(0, 0);
        x.terms(0, 20);
        x.read(1, 0);
        be("terms(0, 19)", x.terms(0, 19), -3);
        be("terms(0, 10)", x.terms(0, 10), -3);
        be("terms(0, 0)", x.terms(0, 0), -3);
        be("terms(0, -1), -1 ahead of -3", x.terms(0, -1), -1);
        be("terms(0, 20), that DAY itself", x.terms(0, 20), 20);
        be("terms(0, 21)", x.terms(0, 21), 20);
        be("terms(0, 20), back to it", x.terms(0, 20), 21);
        be("terms(1, 0), not DAY", x.terms(1, 0), 3);
        be("terms(3, 0), not DAY", x.terms(3, 0), 0);
        x.undo();
        be("terms(0, 9)", x.terms(0, 9), -3);
        be("terms(0, 10)", x.terms(0, 10), 20);
        x.undo();
        be("terms(0, 0), the LOG is empty", x.terms(0, 0), 10);
    }
}
