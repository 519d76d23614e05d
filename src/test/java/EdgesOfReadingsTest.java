/** The sentences on readings in III and of promises 19 to 25 that name an edge. */
public final class EdgesOfReadingsTest extends Edges {
    public static void main(String[] args) {
        theLatestDay();
        asOfWhenItWasRead();
        theLawThatIsInForce();
        boundByThoseThatHold();
        notReadOnThatDay();
        noneThatGainsays();
        whatItNeedsHolds();
        oneListens();
        theVoiceIsNotLess();
        thatOnesReadingsOfThatDay();
        asksAnswersNone();
        asksRoomAside();
        asksThisDay();
        theLogHasTwentyFour();
        readIsRefused();
        readAnswersWhatIsLeft();
        undoOfTheLatest();
        undoIsRefused();
        logAnswers();
        logAnswersNone();
        awaitIsTheNextDay();
        awaitIsRefused();
        awaitHowMany();
        heldAnswersNone();
        heldDays();
        boundAnswersNone();
        boundClasses();
        close();
    }

    private static void theLatestDay() {
        says("III, Promises 4, 24", "on that DAY or ahead of it, the latest DAY");
        FadingActs x = plain(2, 5, 2);
        Due.force(x, "lasts 2 if reader = 1");
        x.terms(0, 3);
        x.read(0, 0);
        x.terms(0, 5);
        x.read(0, 1);
        x.terms(0, 9);
        x.read(0, 0);
        // Five days from 3, but for the two from 5; five from 9.
        int[] due = {0, 0, 0, 1, 1, 1, 1, 0, 0, 1, 1, 1, 1, 1, 0, 0};
        for (int day = 0; day < due.length; day++) be("held(" + day + ")", x.held(day), due[day]);
        be("of(0, 4)", x.of(0, 4), 0);
        x.undo();
        be("held(9), undone", x.held(9), 0);
        be("of(0, 4), undone", x.of(0, 4), 4);
        x.undo();
        be("held(7), undone again", x.held(7), 1);
        be("held(8), undone again", x.held(8), 0);
    }

    private static void asOfWhenItWasRead() {
        says("III, Promises 22, 24", "(asked as of when it was read)");
        FadingActs x = plain(2, 30, 2);
        Due.force(x, "lasts weekday + 1; lasts weekday + 3 if reader = 1");
        x.terms(0, 6);
        x.read(0, 0);
        x.await();
        x.read(1, 1);
        be("log(0, 3)", x.log(0, 3), 7);
        be("log(1, 3)", x.log(1, 3), 3);
        int[] due = {0, 0, 0, 0, 0, 0, 1, 3, 3, 3, 1, 1, 1, 0};
        for (int day = 0; day < due.length; day++) be("held(" + day + ")", x.held(day), due[day]);
        x.terms(0, 12);
        be("of(0, 5), its last DAY", x.of(0, 5), 1);
        be("log(0, 3), later", x.log(0, 3), 7);
        be("asks(0, 0, 0), this DAY", x.asks(0, 0, 0), 6);
    }

    private static void theLawThatIsInForce() {
        says("II, Promises 19, 22", "A reading LASTS as many DAYS as the last \"lasts\" that HOLDS tells");
        FadingActs x = plain(1, 4, 1);
        x.read(0, 0);
        be("log(0, 3), TERM", x.log(0, 3), 4);
        Due.force(x, "lasts mood; takes length + mood");
        be("log(0, 3), MOOD 0", x.log(0, 3), 0);
        be("held(0), MOOD 0", x.held(0), 0);
        x.terms(3, 9);
        be("log(0, 3), MOOD 9", x.log(0, 3), 9);
        be("held(8), MOOD 9", x.held(8), 1);
        be("held(9), MOOD 9", x.held(9), 0);
        be("throat(0, 2), MOOD 9", x.throat(0, 2), 89);
        x.put(0, 0, 60);
        be("throat(0, 2), LENGTH 60", x.throat(0, 2), 30);
        x.force(-1);
        x.put(0, 1, 2);
        be("log(0, 3), TERM 2", x.log(0, 3), 2);
        be("held(1), TERM 2", x.held(1), 1);
        be("held(2), TERM 2", x.held(2), 0);
    }

    private static void boundByThoseThatHold() {
        says("III, Promise 25", "A CLASS is BOUND by ACTS that HOLD and BIND it.");
        FadingActs x = new FadingActs();
        x.act(1, 2, 33);
        x.act(1, 1, 32);
        x.act(1, 9, 63);
        x.reader(9, 3);
        x.read(0, 0);
        x.read(1, 0);
        be("bound(0, 0)", x.bound(0, 0), 1);
        be("bound(5, 0)", x.bound(5, 0), 3);
        be("bound(5, 1), one's last DAY was the one ahead", x.bound(5, 1), 1);
        be("bound(5, 2)", x.bound(5, 2), 0);
        be("bound(1, 0), that does not HOLD", x.bound(1, 0), 0);
        x.put(0, 2, 2);
        be("bound(0, 0), as it BINDS now", x.bound(0, 0), 0);
        be("bound(1, 0), as it BINDS now", x.bound(1, 0), 1);
    }

    private static void notReadOnThatDay() {
        says("III, Promises 19, 20", "the ACT was not read on that DAY");
        FadingActs x = plain(2, 1, 2);
        be("read(0, 0)", x.read(0, 0), 98);
        be("read(0, 0) again", x.read(0, 0), -3);
        be("read(0, 1), another READER", x.read(0, 1), -3);
        be("asks(0, 1, 3)", x.asks(0, 1, 3), 0);
        be("read(1, 0), another ACT", x.read(1, 0), 97);
        x.await();
        be("read(0, 0), the next DAY", x.read(0, 0), 98);
        x.undo();
        be("read(0, 1), undone", x.read(0, 1), 98);
    }

    private static void noneThatGainsays() {
        says("III, Promises 19, 20", "none that GAINSAYS it was");
        FadingActs x = plain(8, 9, 2);
        x.gainsay(0, 7, 1);
        x.gainsay(3, 2, 1);
        be("read(7, 0)", x.read(7, 0), 98);
        be("read(0, 0)", x.read(0, 0), -3);
        be("read(0, 1), another READER", x.read(0, 1), -3);
        be("read(1, 0), not told of", x.read(1, 0), 97);
        be("read(2, 0)", x.read(2, 0), 96);
        be("read(3, 0)", x.read(3, 0), -3);
        x.await();
        be("read(0, 0), it HOLDS but was read the DAY ahead", x.read(0, 0), 98);
        be("read(7, 0), the other way", x.read(7, 0), -3);
        x.gainsay(7, 0, 0);
        be("read(7, 0), no more", x.read(7, 0), 97);
        x.gainsay(0, 7, 1);
        be("count(2), those that are read stay", x.count(2), 5);
    }

    private static void whatItNeedsHolds() {
        says("III, Promises 19, 20", "what it NEEDS HOLDS");
        FadingActs x = plain(2, 3, 1);
        x.put(1, 3, 0);
        be("asks(1, 0, 3), never read", x.asks(1, 0, 3), 0);
        x.read(0, 0);
        be("asks(1, 0, 3), read this DAY", x.asks(1, 0, 3), 1);
        x.terms(0, 2);
        be("asks(1, 0, 3), its last DAY", x.asks(1, 0, 3), 1);
        x.terms(0, 3);
        be("asks(1, 0, 3), a DAY more", x.asks(1, 0, 3), 0);
        be("read(1, 0)", x.read(1, 0), -3);
        be("asks(0, 0, 3), it NEEDS none", x.asks(0, 0, 3), 1);
        Due.force(x, "lasts 0 if act = 0");
        x.read(0, 0);
        be("asks(1, 0, 3), LASTS 0", x.asks(1, 0, 3), 0);
        x.force(-1);
        be("asks(1, 0, 3), LASTS its TERM", x.asks(1, 0, 3), 1);
        x.put(1, 3, -1);
        x.undo();
        be("asks(1, 0, 3), NEEDS none", x.asks(1, 0, 3), 1);
    }

    private static void oneListens() {
        says("III, Promises 19, 20", "one LISTENS whom it BINDS");
        FadingActs x = new FadingActs();
        x.act(1, 1, 33);
        x.reader(9, 2);
        int[] kinds = {63, 1, 32, 33, 62, 31, 30, 2, 16, 0};
        int[] due = {1, 1, 1, 1, 1, 1, 0, 0, 0, 0};
        for (int i = 0; i < kinds.length; i++) {
            x.listen(0, kinds[i]);
            be("asks(0, 0, 3), LISTENERS " + kinds[i], x.asks(0, 0, 3), due[i]);
        }
        be("read(0, 0), none LISTENS", x.read(0, 0), -3);
        x.await();
        be("asks(0, 0, 3), another weekday", x.asks(0, 0, 3), 1);
        x.terms(0, 7);
        be("asks(0, 0, 3), that weekday", x.asks(0, 0, 3), 0);
        be("asks(0, 0, 2), BARRED is another matter", x.asks(0, 0, 2), 0);
    }

    private static void theVoiceIsNotLess() {
        says("III, Promises 19, 20", "the READER's VOICE is not less than all that one's readings of that DAY and this one TAKE.");
        FadingActs x = new FadingActs();
        x.act(20, 9, 1);
        x.act(20, 9, 1);
        x.act(1, 9, 1);
        x.reader(40, 0);
        x.reader(19, 0);
        be("read(0, 1), a minute less", x.read(0, 1), -3);
        be("read(0, 0)", x.read(0, 0), 20);
        x.put(1, 0, 21);
        be("read(1, 0), a minute less", x.read(1, 0), -3);
        x.put(1, 0, 20);
        be("read(1, 0), just enough", x.read(1, 0), 0);
        be("read(2, 0), nothing is left", x.read(2, 0), -3);
        Due.force(x, "takes 0 if act = 2");
        be("read(2, 0), it TAKES 0", x.read(2, 0), 0);
        FadingActs y = new FadingActs();
        y.act(60, 9, 1);
        y.reader(99, 0);
        y.reader(98, 0);
        Due.force(y, "takes 99");
        be("asks(0, 1, 3), TAKES 99", y.asks(0, 1, 3), 0);
        be("read(0, 0), TAKES 99", y.read(0, 0), 0);
    }

    private static void thatOnesReadingsOfThatDay() {
        says("III, Promises 19, 20", "all that one's readings of that DAY and this one TAKE");
        FadingActs x = new FadingActs();
        x.act(30, 9, 1);
        x.act(30, 9, 1);
        x.act(30, 9, 1);
        x.reader(59, 0);
        x.reader(59, 0);
        be("read(0, 0)", x.read(0, 0), 29);
        be("read(1, 0)", x.read(1, 0), -3);
        be("read(1, 1), by another", x.read(1, 1), 29);
        x.await();
        be("read(2, 0), the next DAY", x.read(2, 0), 29);
        be("read(0, 0)", x.read(0, 0), -3);
        x.undo();
        be("read(0, 0), undone", x.read(0, 0), 29);
    }

    private static void asksAnswersNone() {
        says("Promise 19", "whether it CAN be (3: 1, 0; room aside). NONE.");
        FadingActs x = plain(2, 1, 2);
        for (int what = 0; what < 4; what++) {
            for (int act : outside(0, 1)) be("asks(" + act + ", 0, " + what + ")", x.asks(act, 0, what), -1);
            for (int reader : outside(0, 1)) be("asks(0, " + reader + ", " + what + ")", x.asks(0, reader, what), -1);
        }
        for (int what : outside(0, 3)) be("asks(0, 0, " + what + ")", x.asks(0, 0, what), -1);
        be("asks(1, 1, 3)", x.asks(1, 1, 3), 1);
        be("count(6), count(7)", x.count(6) + x.count(7), 0);
    }

    private static void asksRoomAside() {
        says("Promise 19", "(3: 1, 0; room aside)");
        FadingActs x = full(2, 1, 1);
        be("asks(0, 0, 3)", x.asks(0, 0, 3), 1);
        be("read(0, 0)", x.read(0, 0), -5);
        be("asks(1, 0, 3)", x.asks(1, 0, 3), 1);
        x.listen(24 % 7, 0);
        be("asks(0, 0, 3), none LISTENS", x.asks(0, 0, 3), 0);
    }

    private static void asksThisDay() {
        says("Promise 19", "Of an ACT by a READER this DAY how long it would LAST (what 0), what it TAKES (1), whether it is BARRED (2: 1, 0)");
        FadingActs x = Due.market();
        Due.force(x, "lasts weekday; takes weekday + 10; bars if weekday = 6");
        for (int day : new int[] {0, 5, 6, 7, 999}) {
            x.terms(0, day);
            be("asks(0, 0, 0) on DAY " + day, x.asks(0, 0, 0), day % 7);
            be("asks(0, 0, 1) on DAY " + day, x.asks(0, 0, 1), day % 7 + 10);
            be("asks(0, 0, 2) on DAY " + day, x.asks(0, 0, 2), day % 7 == 6 ? 1 : 0);
        }
    }

    private static void theLogHasTwentyFour() {
        says("I, Promise 20", "The LOG, 24 at most");
        FadingActs x = plain(8, 1, 1);
        for (int i = 0; i < 24; i++) {
            be("read() " + i, x.read(i % 8, 0), 98 - i % 8);
            if (i % 8 == 7) x.await();
        }
        be("count(2)", x.count(2), 24);
        be("read(0, 0), the 25th", x.read(0, 0), -5);
        be("count(2) then", x.count(2), 24);
        be("log(23, 0)", x.log(23, 0), 7);
        be("log(24, 0)", x.log(24, 0), -1);
        x.undo();
        be("read(0, 0), room for one", x.read(0, 0), 98);
        be("read(1, 0), no more", x.read(1, 0), -5);
    }

    private static void readIsRefused() {
        says("Promise 20", "A READING this DAY: what is left of the VOICE. -2; -3; -5.");
        FadingActs x = full(2, 1, 2);
        for (int act : outside(0, 1)) be("read(" + act + ", 0)", x.read(act, 0), -2);
        for (int reader : outside(0, 1)) be("read(0, " + reader + ")", x.read(0, reader), -2);
        x.put(1, 3, 0);
        be("read(1, 0), -3 ahead of -5", x.read(1, 0), -3);
        be("read(1, 2), -2 ahead of -3", x.read(1, 2), -2);
        be("read(0, 0)", x.read(0, 0), -5);
        be("count(7), count(8), count(9)", x.count(7) * 100 + x.count(8) * 10 + x.count(9), 1711);
        be("count(2)", x.count(2), 24);
    }

    private static void readAnswersWhatIsLeft() {
        says("Promise 20", "what is left of the VOICE");
        FadingActs x = Due.market();
        be("read(0, 0)", x.read(0, 0), 40);
        be("read(2, 0)", x.read(2, 0), 10);
        be("read(1, 1)", x.read(1, 1), 5);
        be("throat(0, 2)", x.throat(0, 2), 10);
        x.await();
        be("read(0, 1)", x.read(0, 1), 15);
        Due.force(x, "takes 24 if act = 1");
        be("read(1, 0), by the LAW", x.read(1, 0), 26);
    }

    private static void undoOfTheLatest() {
        says("Promise 21", "The reading told latest goes out of the LOG: its ACT.");
        FadingActs x = plain(8, 9, 1);
        for (int a = 7; a >= 0; a--) x.read(a, 0);
        for (int a = 0; a < 8; a++) {
            be("undo()", x.undo(), a);
            be("held(0)", x.held(0), 256 - (2 << a));
            be("throat(0, 2)", x.throat(0, 2), 99 - (7 - a));
        }
        be("status(), ACT 0 is no refusal", x.count(8), 0);
    }

    private static void undoIsRefused() {
        says("Promise 21", "-3 there is none.");
        FadingActs x = plain(1, 1, 1);
        be("undo()", x.undo(), -3);
        x.read(0, 0);
        be("undo(), one", x.undo(), 0);
        be("status()", x.status(), 0);
        be("undo(), none", x.undo(), -3);
        be("status()", x.status(), -3);
        be("count(8)", x.count(8), 2);
        be("count(2)", x.count(2), 0);
    }

    private static void logAnswers() {
        says("Promise 22", "Of the i-th reading in the LOG ACT (what 0), READER (1), DAY (2), how long it LASTS (3).");
        FadingActs x = new FadingActs();
        for (int a = 0; a < 8; a++) x.act(1, a + 1, 1);
        for (int r = 0; r < 4; r++) x.reader(99, 0);
        for (int i = 0; i < 24; i++) {
            x.terms(0, 41 * i);
            x.read(i % 8, i % 4);
        }
        for (int i = 0; i < 24; i++) {
            be("log(" + i + ", 0)", x.log(i, 0), i % 8);
            be("log(" + i + ", 1)", x.log(i, 1), i % 4);
            be("log(" + i + ", 2)", x.log(i, 2), 41 * i);
            be("log(" + i + ", 3)", x.log(i, 3), i % 8 + 1);
        }
    }

    private static void logAnswersNone() {
        says("Promise 22", "how long it LASTS (3). NONE.");
        FadingActs x = plain(1, 5, 1);
        be("log(0, 0), empty", x.log(0, 0), -1);
        x.read(0, 0);
        x.await();
        x.read(0, 0);
        for (int i : outside(0, 1)) for (int what = 0; what < 4; what++) be("log(" + i + ", " + what + ")", x.log(i, what), -1);
        for (int what : outside(0, 3)) be("log(0, " + what + ")", x.log(0, what), -1);
        be("log(1, 2)", x.log(1, 2), 1);
        x.undo();
        be("log(1, 2), undone", x.log(1, 2), -1);
    }

    private static void awaitIsTheNextDay() {
        says("Promise 23", "It is the next DAY: how many ACTS HOLD no more.");
        FadingActs x = plain(1, 2, 1);
        be("await()", x.await(), 0);
        be("count(12)", x.count(12), 1);
        x.read(0, 0);
        be("await(), it HOLDS", x.await(), 0);
        be("await(), it HOLDS no more", x.await(), 1);
        be("await(), it did not HOLD", x.await(), 0);
        be("count(12)", x.count(12), 4);
        x.read(0, 0);
        x.await();
        x.read(0, 0);
        be("await(), read anew", x.await(), 0);
        be("await(), and no more", x.await(), 1);
    }

    private static void awaitIsRefused() {
        says("Promise 23", "-3 DAY 999.");
        FadingActs x = plain(1, 1, 1);
        x.terms(0, 998);
        be("await() on 998", x.await(), 0);
        x.read(0, 0);
        be("await() on 999", x.await(), -3);
        be("status()", x.status(), -3);
        be("count(12)", x.count(12), 999);
        be("held(999)", x.held(999), 1);
        x.undo();
        x.terms(0, 997);
        be("await() on 997", x.await(), 0);
    }

    private static void awaitHowMany() {
        says("Promise 23", "how many ACTS HOLD no more");
        FadingActs x = plain(8, 1, 1);
        for (int a = 0; a < 8; a++) {
            x.put(a, 1, a < 5 ? 1 : 2);
            x.read(a, 0);
        }
        be("await(), five", x.await(), 5);
        be("await(), three", x.await(), 3);
        be("await(), none", x.await(), 0);
        FadingActs y = plain(8, 30, 1);
        for (int a = 0; a < 8; a++) y.read(a, 0);
        for (int i = 1; i < 30; i++) be("await() on " + (i - 1), y.await(), 0);
        be("await(), all eight", y.await(), 8);
    }

    private static void heldAnswersNone() {
        says("Promise 24", "ACTS that HOLD on a DAY, as bits. NONE.");
        FadingActs x = plain(8, 30, 1);
        be("held(0)", x.held(0), 0);
        for (int day : outside(0, 999)) be("held(" + day + ")", x.held(day), -1);
        x.terms(0, 999);
        for (int a = 0; a < 8; a++) {
            x.read(a, 0);
            be("held(999)", x.held(999), (2 << a) - 1);
        }
        be("held(998)", x.held(998), 0);
        be("held(1000)", x.held(1000), -1);
    }

    private static void heldDays() {
        says("III, Promise 24", "if that is less DAYS ago than it LASTS");
        FadingActs x = plain(1, 30, 1);
        x.terms(0, 100);
        x.read(0, 0);
        for (int day : new int[] {0, 99, 100, 129, 130, 999}) be("held(" + day + ")", x.held(day), day >= 100 && day < 130 ? 1 : 0);
        Due.force(x, "lasts 99");
        for (int day : new int[] {99, 100, 198, 199}) be("held(" + day + "), LASTS 99", x.held(day), day >= 100 && day < 199 ? 1 : 0);
        Due.force(x, "lasts 1");
        for (int day : new int[] {99, 100, 101}) be("held(" + day + "), LASTS 1", x.held(day), day == 100 ? 1 : 0);
        Due.force(x, "lasts 0");
        for (int day : new int[] {99, 100, 101}) be("held(" + day + "), LASTS 0", x.held(day), 0);
    }

    private static void boundAnswersNone() {
        says("Promise 25", "ACTS by which a CLASS is BOUND on a DAY, as bits. NONE.");
        FadingActs x = plain(1, 9, 1);
        x.read(0, 0);
        for (int kind : outside(0, 5)) be("bound(" + kind + ", 0)", x.bound(kind, 0), -1);
        for (int day : outside(0, 999)) be("bound(0, " + day + ")", x.bound(0, day), -1);
        be("bound(0, 0)", x.bound(0, 0), 1);
        be("bound(5, 0)", x.bound(5, 0), 0);
        be("bound(0, 999)", x.bound(0, 999), 0);
        be("bound(0, 8)", x.bound(0, 8), 1);
        be("bound(0, 9)", x.bound(0, 9), 0);
    }

    private static void boundClasses() {
        says("I, Promises 2, 3, 25", "BINDS some of CLASSES 0 .. 5 (bits)");
        FadingActs x = new FadingActs();
        for (int a = 0; a < 8; a++) x.act(1, 9, a < 6 ? 1 << a : a == 6 ? 63 : 33);
        x.reader(99, 0);
        for (int a = 0; a < 8; a++) x.read(a, 0);
        for (int kind = 0; kind < 6; kind++) be("bound(" + kind + ", 0)", x.bound(kind, 0), (1 << kind) + 64 + (kind % 5 == 0 ? 128 : 0));
    }
}
