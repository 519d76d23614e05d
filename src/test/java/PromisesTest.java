/** For each promise its ordinary inputs, the edges that the document names, and wrong inputs. */
public final class PromisesTest {
    private static final int MAX = Integer.MAX_VALUE;
    private static final int MIN = Integer.MIN_VALUE;

    private PromisesTest() { }

    public static void main(String[] args) {
        newObject();
        act();
        put();
        of();
        gainsay();
        reader();
        throat();
        listen();
        terms();
        feedAndEnd();
        rowAndMud();
        law();
        orders();
        ordersWords();
        faultOfLaws();
        faultOfOrders();
        limitsOfTexts();
        stopped();
        force();
        asks();
        sums();
        tests();
        read();
        undo();
        log();
        lawsAreAskedNow();
        await();
        held();
        bound();
        mornings();
        game();
        dead();
        throats();
        days();
        likely();
        fines();
        unwritten();
        years();
        images();
        count();
        status();
        Due.close();
    }

    private static void be(String what, long got, long want) { Due.be(what, got, want); }

    private static String many(String part, String between, int n) {
        StringBuilder b = new StringBuilder(part);
        for (int i = 1; i < n; i++) b.append(between).append(part);
        return b.toString();
    }

    private static void newObject() {
        FadingActs x = new FadingActs();
        int[] due = {0, 0, 0, 0, 0, 0, 0, 0, 0, 0, 0, -1, 0, 3, 20, 0};
        for (int i = 0; i < due.length; i++) be("1: new count(" + i + ")", x.count(i), due[i]);
        be("1: new status", x.status(), 0);
        be("1: new mud", x.mud(), 0);
        be("1: new fault", x.fault(), -1);
        be("1: new stopped", x.stopped(), -1);
        be("1: new held", x.held(0), 0);
        be("1: new dead", x.dead(), 0);
        be("1: new judge", x.judge(), 1);
        be("1: new unwritten", x.unwritten(-1), 0);
        be("1: new unwritten 0", x.unwritten(0), -1);
        be("1: new drawn", x.drawn(0, 0), -1);
        be("1: new days", x.days(0, -1), -1);
        for (int w = 0; w < 7; w++) be("1: new listeners", x.listen(w, 0), 63);
    }

    private static void act() {
        FadingActs x = new FadingActs();
        be("2: lowest", x.act(1, 1, 1), 0);
        be("2: highest", x.act(60, 30, 63), 1);
        int[][] bad = {{0, 1, 1}, {61, 1, 1}, {1, 0, 1}, {1, 31, 1}, {1, 1, 0}, {1, 1, 64}, {MIN, 1, 1}, {1, MAX, 1}, {1, 1, MIN}};
        for (int[] b : bad) be("2: can't be", x.act(b[0], b[1], b[2]), -1);
        be("2: needs none at first", x.of(0, 3), -1);
        for (int i = 2; i < 8; i++) be("2: number", x.act(5, 5, 5), i);
        be("2: no room", x.act(5, 5, 5), -5);
        be("2: -1 ahead of -5", x.act(0, 5, 5), -1);
        be("2: eight", x.count(0), 8);
    }

    private static void put() {
        FadingActs x = Due.market();
        be("3: length", x.put(0, 0, 60), 10);
        be("3: length is", x.of(0, 0), 60);
        be("3: term", x.put(0, 1, 30), 5);
        be("3: term is", x.of(0, 1), 30);
        be("3: binds", x.put(0, 2, 63), 3);
        be("3: binds is", x.of(0, 2), 63);
        be("3: needs", x.put(0, 3, 2), -1);
        be("3: not refused", x.status(), 0);
        be("3: needs none", x.put(0, 3, -1), 2);
        be("3: needs is", x.of(0, 3), -1);
        int[][] bad = {{0, 4, 1}, {0, -1, 1}, {0, 0, 0}, {0, 0, 61}, {0, 1, 0}, {0, 1, 31}, {0, 2, 0}, {0, 2, 64}, {1, 3, 1}, {9, 0, 0}, {9, 3, 9},
            {0, 3, -2}, {0, 3, -3}, {0, 3, MIN}, {9, 3, -2}, {-1, 3, -2}, {-2, 3, -2}, {-1, 3, -1}, {MAX, 3, MAX}, {3, 3, 3}};
        for (int[] b : bad) be("3: can't be", x.put(b[0], b[1], b[2]), -1);
        int[][] none = {{3, 0, 1}, {-1, 0, 1}, {0, 3, 3}, {0, 3, 7}, {0, 3, 8}, {0, 3, MAX}, {9, 3, 8}, {9, 3, 0}, {9, 3, -1}, {MAX, 1, 1}, {-2, 3, -1}, {-1, 3, 0}, {-1, 3, 8}, {3, 3, -1}};
        for (int[] b : none) be("3: no such", x.put(b[0], b[1], b[2]), -2);
        be("3: nothing changed", x.of(0, 0), 60);
        be("3: needs is as it was", x.of(0, 3), -1);
        putNeedsBelowNone();
        putNeedsItselfNone();
    }

    /** On a new object there is no act either, but that would be refused behind it. */
    private static void putNeedsBelowNone() {
        FadingActs x = new FadingActs();
        be("3: below NONE ahead of no such", x.put(0, 3, -3), -1);
        be("3: told by status", x.status(), -1);
        be("3: counted as -1", x.count(6), 1);
        be("3: not counted as -2", x.count(7), 0);
        be("3: NONE can be", x.put(0, 3, -1), -2);
        be("3: counted as -2", x.count(7), 1);
    }

    /** The value is the act's own number, even where that number is NONE. */
    private static void putNeedsItselfNone() {
        FadingActs x = new FadingActs();
        be("3: itself ahead of no such", x.put(-1, 3, -1), -1);
        be("3: told by status", x.status(), -1);
        be("3: counted as -1", x.count(6), 1);
        be("3: not counted as -2", x.count(7), 0);
        be("3: NONE of another that is not there", x.put(-2, 3, -1), -2);
        x.act(1, 1, 1);
        be("3: no act came between", x.put(-1, 3, -1), -1);
        be("3: NONE of one that is there", x.put(0, 3, -1), -1);
        be("3: which is what it was", x.status(), 0);
        be("3: twice by -1", x.count(6), 2);
        be("3: once by -2", x.count(7), 1);
    }

    private static void of() {
        FadingActs x = Due.market();
        be("4: length", x.of(2, 0), 30);
        be("4: term", x.of(2, 1), 2);
        be("4: binds", x.of(2, 2), 63);
        be("4: not read", x.of(2, 4), -1);
        be("4: doesn't hold", x.of(2, 5), 0);
        x.read(2, 0);
        be("4: read this day", x.of(2, 4), 0);
        be("4: holds", x.of(2, 5), 1);
        x.await();
        be("4: a day ago", x.of(2, 4), 1);
        be("4: still holds", x.of(2, 5), 1);
        x.await();
        be("4: two days ago", x.of(2, 4), 2);
        be("4: no more", x.of(2, 5), 0);
        be("4: no such act", x.of(3, 0), -1);
        be("4: no such act", x.of(-1, 5), -1);
        be("4: no such what", x.of(0, 6), -1);
        be("4: no such what", x.of(0, -1), -1);
    }

    private static void gainsay() {
        FadingActs x = Due.market();
        be("5: none at first", x.gainsay(0, 1, 1), 0);
        be("5: both ways", x.gainsay(1, 0, 1), 1);
        x.read(0, 0);
        be("5: can't be read on the same day", x.read(1, 0), -3);
        be("5: another can", x.read(2, 0), 10);
        x.await();
        be("5: on another day", x.read(1, 0), 30);
        be("5: the other way", x.read(0, 0), -3);
        be("5: taken back", x.gainsay(1, 0, 0), 1);
        be("5: it was", x.gainsay(0, 1, 0), 0);
        be("5: now it can", x.read(0, 0), 20);
        int[][] bad = {{0, 0, 1}, {0, 1, 2}, {0, 1, -1}, {9, 9, 0}, {9, 1, 5}};
        for (int[] b : bad) be("5: can't be", x.gainsay(b[0], b[1], b[2]), -1);
        be("5: no such", x.gainsay(0, 3, 1), -2);
        be("5: no such", x.gainsay(-1, 0, 1), -2);
    }

    private static void reader() {
        FadingActs x = new FadingActs();
        be("6: lowest", x.reader(1, 0), 0);
        be("6: highest", x.reader(99, 5), 1);
        int[][] bad = {{0, 0}, {100, 0}, {1, -1}, {1, 6}, {MIN, MAX}};
        for (int[] b : bad) be("6: can't be", x.reader(b[0], b[1]), -1);
        be("6: third", x.reader(5, 5), 2);
        be("6: fourth", x.reader(5, 5), 3);
        be("6: no room", x.reader(5, 5), -5);
        be("6: -1 first", x.reader(0, 5), -1);
    }

    private static void throat() {
        FadingActs x = Due.market();
        be("7: voice", x.throat(1, 0), 25);
        be("7: class", x.throat(1, 1), 1);
        be("7: left", x.throat(1, 2), 25);
        x.read(0, 1);
        be("7: less", x.throat(1, 2), 15);
        be("7: all the same", x.throat(1, 0), 25);
        be("7: another's", x.throat(0, 2), 50);
        x.await();
        be("7: the next day", x.throat(1, 2), 25);
        be("7: no such", x.throat(2, 0), -1);
        be("7: no such", x.throat(-1, 2), -1);
        be("7: no such what", x.throat(0, 3), -1);
        be("7: no such what", x.throat(0, -1), -1);
    }

    private static void listen() {
        FadingActs x = Due.market();
        be("8: all at first", x.listen(0, 4), 63);
        be("8: what they were", x.listen(0, 3), 4);
        be("8: one listens", x.asks(0, 0, 3), 1);
        be("8: nobody whom it binds", x.asks(1, 0, 3), 0);
        be("8: nobody at all", x.listen(0, 0), 3);
        be("8: not this one either", x.asks(0, 0, 3), 0);
        x.terms(0, 7);
        be("8: the same weekday", x.asks(0, 0, 3), 0);
        x.terms(0, 8);
        be("8: another weekday", x.asks(0, 0, 3), 1);
        int[][] bad = {{-1, 0}, {7, 0}, {0, -1}, {0, 64}, {MIN, MAX}};
        for (int[] b : bad) be("8: can't be", x.listen(b[0], b[1]), -1);
        be("8: highest", x.listen(6, 63), 63);
    }

    private static void terms() {
        FadingActs x = Due.market();
        be("9: day", x.terms(0, 999), 0);
        be("9: day back", x.terms(0, 5), 999);
        be("9: rain", x.terms(1, 0), 3);
        be("9: rain", x.terms(1, 10), 0);
        be("9: dry", x.terms(2, 1), 20);
        be("9: dry", x.terms(2, 60), 1);
        be("9: mood", x.terms(3, 9), 0);
        be("9: mood", x.terms(3, 0), 9);
        int[][] bad = {{0, -1}, {0, 1000}, {1, -1}, {1, 11}, {2, 0}, {2, 61}, {3, -1}, {3, 10}, {4, 0}, {-1, 0}};
        for (int[] b : bad) be("9: can't be", x.terms(b[0], b[1]), -1);
        x.read(0, 0);
        be("9: ahead of the log", x.terms(0, 4), -3);
        be("9: as in the log", x.terms(0, 5), 5);
        be("9: behind it", x.terms(0, 9), 5);
        be("9: -1 first", x.terms(0, -1), -1);
        x.undo();
        be("9: without it", x.terms(0, 0), 9);
    }

    private static void feedAndEnd() {
        FadingActs x = new FadingActs();
        be("10: twenty", x.feed(0x0a050300, -1, 0x14030402, 1, 2), 20);
        be("11: twelve", x.end(12), 12);
        be("11: not so many", x.end(13), -1);
        be("11: below 0", x.end(-1), -1);
        be("11: still", x.count(5), 12);
        be("10: bytes, the highest first", x.row(), 1);
        be("10: two of mud", x.mud(), 2);
        be("10: length and term", x.of(0, 0) * 100 + x.of(0, 1), 1005);
        be("10: binds", x.of(0, 2), 3);
        for (int i = 1; i <= 20; i++) be("10: how many", x.feed(i, i, i, i, i), 20 * i);
        be("10: more than 400", x.feed(0, 0, 0, 0, 0), -1);
        be("10: still 400", x.count(5), 400);
        be("11: 381", x.end(381), 381);
        be("10: 401", x.feed(0, 0, 0, 0, 0), -1);
        be("11: all that it has", x.end(381), 381);
        be("11: 380", x.end(380), 380);
        be("10: 400", x.feed(0, 0, 0, 0, 0), 400);
        be("11: none", x.end(0), 0);
        be("11: none left", x.count(5), 0);
        be("10: calls of feed and end aren't refused", x.status(), 0);
    }

    private static void rowAndMud() {
        FadingActs x = new FadingActs();
        be("12: empty", x.row(), -6);
        be("13: ahead of any", x.mud(), 0);
        Due.tape(x, new byte[] {60, 30, 63, 0, 1, 1, 1, 1, 2, 2, 2, 2});
        be("12: three", x.row(), 3);
        be("13: no mud", x.mud(), 0);
        be("12: first", x.of(0, 0) * 10000 + x.of(0, 1) * 100 + x.of(0, 2), 603063);
        be("12: needs none", x.of(0, 3), -1);
        be("12: needs the first", x.of(1, 3), 0);
        be("12: needs the second", x.of(2, 3), 1);
        be("12: tape is empty then", x.count(5), 0);
        // Length, term, binds, needs out of bounds, itself, and an end within.
        Due.tape(x, new byte[] {0, 1, 1, 0, 61, 1, 1, 0, 1, 31, 1, 0, 1, 1, 64, 0, 1, 1, 0, 0, 1, 1, 1, 4, 1, 1, 1, -1, 1, 1, 1});
        be("12: none comes", x.row(), 0);
        be("13: all mud", x.mud(), 8);
        be("12: not refused", x.status(), 0);
        be("12: empty again", x.row(), -6);
        be("13: of the latest not refused", x.mud(), 8);
        byte[] seven = new byte[28];
        java.util.Arrays.fill(seven, (byte) 1);
        Due.tape(x, seven);
        be("12: room for five", x.row(), 5);
        be("13: no room for two", x.mud(), 2);
        be("12: eight", x.count(0), 8);
    }

    private static void law() {
        FadingActs x = Due.market();
        be("14: number", Due.law(x, "lasts 7"), 0);
        be("14: empty then", x.count(5), 0);
        be("14: a fault", Due.law(x, "lasts"), -6);
        be("14: empty then, too", x.count(5), 0);
        be("14: blanks", Due.law(x, "    "), -6);
        be("14: at the end", x.fault(), 4);
        be("14: no byte", Due.law(x, ""), -6);
        be("14: at the end of none", x.fault(), 0);
        for (int i = 1; i < 6; i++) be("14: number", Due.law(x, "takes " + i), i);
        be("14: faultless", x.fault(), -1);
        be("14: no room", Due.law(x, "lasts"), -5);
        be("14: empty then, too", x.count(5), 0);
        be("14: was not read", x.fault(), -1);
        be("14: none in force by that", x.count(11), -1);
        be("14: six", x.count(4), 6);
    }

    private static void orders() {
        FadingActs x = Due.market();
        be("15: read", Due.orders(x, "read 0 by 1"), 1);
        be("15: was read", x.log(0, 1), 1);
        be("15: wait thrice", Due.orders(x, "wait times 3"), 3);
        be("15: three days on", x.count(12), 3);
        be("15: empty then", x.count(5), 0);
        be("15: not so", Due.orders(x, "read 0 by 1 if 1 = 2;wait if 1/0 = 1"), 0);
        be("15: not refused", x.status(), 0);
        be("15: none", x.count(12), 3);
        be("15: wholly or not", Due.orders(x, "wait; read 1 by 0; read 1 by 0"), -3);
        be("15: which", x.stopped(), 2);
        be("15: day as it was", x.count(12), 3);
        be("15: log as it was", x.count(2), 1);
        be("15: no such act", Due.orders(x, "wait;read 9 by 0"), -3);
        be("15: no such reader", Due.orders(x, "read 0 by 0-1"), -3);
        be("15: broken", Due.orders(x, "read 1 / 0 by 0"), -3);
        be("15: broken by whom", Due.orders(x, "read 0 by 1 % 0"), -3);
        be("15: a fault", Due.orders(x, "reads 0 by 0"), -6);
        be("15: blanks", Due.orders(x, "  "), -6);
        be("15: at the end", x.fault(), 2);
        x.terms(0, 998);
        be("15: the last day", Due.orders(x, "wait times 2"), -3);
        be("15: back ahead of it", x.count(12), 998);
        be("15: up to it", Due.orders(x, "wait"), 1);
        x = new FadingActs();
        x.act(1, 1, 1);
        x.act(1, 1, 1);
        x.reader(9, 0);
        be("15: twelve days", Due.orders(x, many("read 0 by 0; read 1 by 0; wait", ";", 4)), 12);
        Due.orders(x, many("read 0 by 0; read 1 by 0; wait", ";", 4));
        Due.orders(x, many("read 0 by 0; read 1 by 0; wait", ";", 4));
        be("15: full", x.count(2), 24);
        be("15: no room", Due.orders(x, "wait; read 0 by 0"), -5);
        be("15: that one", x.stopped(), 1);
        be("15: day as it was", x.count(12), 12);
        be("15: can't be ahead of no room", Due.orders(x, "read 0 by 3"), -3);
    }

    private static void ordersWords() {
        FadingActs x = Due.market();
        be("15: none last", Due.orders(x, "read 0 by 0 if last = 0-1 and done = 0 and day = 0 and held = 0"), 1);
        be("15: last", Due.orders(x, "read last+2 by 0 if last=0-1;wait if last=1 and done=1 and held=2"), 2);
        x = Due.market();
        be("15: since none", Due.orders(x, "wait if since 0 = 0-1 and since 7 = 0-1"), 1);
        be("15: since", Due.orders(x, "read 0 by 0;wait times 2;wait times 9 if since 0 < 4"), 5);
        be("15: voice", Due.orders(x, "wait if voice 0 = 50 and voice 1 = 25 and voice 2 = 0-1 and voice 3 = 0-1"), 1);
        be("15: voice less", Due.orders(x, "read 0 by 1;read 2 by 0;wait if voice 1 = 15 and voice 0 = 20"), 3);
        be("15: each time asked", Due.orders(x, "wait times 20 if day < 15;read day - 15 by 0"), 9);
        be("15: done counts", Due.orders(x, "wait times 20 if done < 7"), 7);
        be("15: held", Due.orders(x, "read 1 by 0;wait times 5 if held > 0"), 4);
        be("15: sums", Due.orders(x, "read [2+3*2]/4-1 by 7%2-1;read 0 by 0 if last = 1"), 2);
    }

    private static void faultAt(FadingActs x, boolean law, String text, int at) {
        int answer = law ? Due.law(x, text) : Due.orders(x, text);
        be("16: '" + text + "'", at == -1 ? Math.min(answer, 0) : answer, at == -1 ? 0 : -6);
        be("16: fault of '" + text + "'", x.fault(), at);
        x.back(0);
    }

    private static void faultOfLaws() {
        FadingActs x = Due.market();
        x.image(0);
        String[] good = {"bars", "lasts act+length+term+binds+reader+class+weekday+mood", "lasts1if1=1", "bars if not not 1<2",
            "takes [1]", "bars if ((1=1)) or ([1]>0 and not(2<1))", "lasts 1000", "lasts 00001000;bars", " bars ; bars "};
        for (String text : good) faultAt(x, true, text, -1);
        faultAt(x, true, "wait", 0);
        faultAt(x, true, "  wait", 2);
        faultAt(x, true, "Lasts 1", 0);
        faultAt(x, true, "lasts if", 6);
        faultAt(x, true, "lasts day", 6);
        faultAt(x, true, "lasts (1)", 6);
        faultAt(x, true, "lasts 1001", 6);
        faultAt(x, true, "lasts 99999999999999999999", 6);
        faultAt(x, true, "lasts 1 2", 8);
        faultAt(x, true, "lasts 1 +", 9);
        faultAt(x, true, "lasts 1 + ", 10);
        faultAt(x, true, "lasts -1", 6);
        faultAt(x, true, "lasts [1", 8);
        faultAt(x, true, "lasts [1)", 8);
        faultAt(x, true, "lasts 1]", 7);
        faultAt(x, true, "lasts 1;", 8);
        faultAt(x, true, "lasts 1;;bars", 8);
        faultAt(x, true, "lasts 1 if 1", 12);
        faultAt(x, true, "lasts 1 if 1=1=1", 14);
        faultAt(x, true, "lasts 1 if (1)=1", 13);
        faultAt(x, true, "lasts 1 if [1=1]", 13);
        faultAt(x, true, "lasts 1 if (1=1", 15);
        faultAt(x, true, "lasts 1 if 1=1)", 14);
        faultAt(x, true, "lasts 1 if 1=1 and", 18);
        faultAt(x, true, "lasts 1 if 1=1 or or", 18);
        faultAt(x, true, "lasts 1 if not", 14);
        faultAt(x, true, "lasts 1 if notnot 1=1", 11);
        faultAt(x, true, "lasts 1 times 2", 8);
        faultAt(x, true, "bars if", 7);
        faultAt(x, true, "bars bars", 5);
        faultAt(x, true, "bars\t", 4);
        faultAt(x, true, "bars\u00e9", 4);
        faultAt(x, true, "bars if 1=1 if 1=1", 12);
        faultAt(x, true, "lastss 1", 0);
        faultAt(x, true, "last 1", 0);
    }

    private static void faultOfOrders() {
        FadingActs x = Due.market();
        x.image(0);
        faultAt(x, false, "wait", -1);
        faultAt(x, false, "read 0by 0", -1);
        x.back(0);
        be("16: blanks aren't asked for", Due.orders(x, "read0by0times1if1=1;wait"), 2);
        x.back(0);
        faultAt(x, false, "lasts 1", 0);
        faultAt(x, false, "read", 4);
        faultAt(x, false, "read 0 0", 7);
        faultAt(x, false, "read 0 by", 9);
        faultAt(x, false, "read 0 by 0 by 0", 12);
        faultAt(x, false, "read act by 0", 5);
        faultAt(x, false, "wait 1", 5);
        faultAt(x, false, "wait times", 10);
        faultAt(x, false, "wait times 0", 11);
        faultAt(x, false, "wait times 21", 11);
        faultAt(x, false, "wait times 1+1", 12);
        faultAt(x, false, "wait times day", 11);
        faultAt(x, false, "wait times 2 times 2", 13);
        faultAt(x, false, "wait if 1=1 times 2", 12);
        faultAt(x, false, "wait if since = 1", 14);
        faultAt(x, false, "wait if since 8 = 1", 14);
        faultAt(x, false, "wait if since 7 = 1", -1);
        faultAt(x, false, "wait if voice 4 = 1", 14);
        faultAt(x, false, "wait if voice 3 = 1", -1);
        faultAt(x, false, "wait if voice day = 1", 14);
        faultAt(x, false, "wait times 20", -1);
        be("16: -3 has no fault", Due.orders(x, "read 9 by 9") * 10 + x.fault(), -31);
    }

    private static void limitsOfTexts() {
        FadingActs x = Due.market();
        x.image(0);
        faultAt(x, true, many("bars", ";", 12), -1);
        faultAt(x, true, many("bars", ";", 13), 60);
        faultAt(x, true, many("bars", ";", 12) + "; 7", 61);
        faultAt(x, true, many("bars", ";", 12) + ";", 60);
        faultAt(x, true, many("bars", ";", 12) + " 7", 60);
        faultAt(x, true, "lasts " + many("1", "+", 50), -1);
        faultAt(x, true, "lasts " + many("1", "+", 51), 106);
        faultAt(x, true, "lasts " + many("1", "+", 30) + ";takes " + many("act", "+", 20), -1);
        faultAt(x, true, "lasts " + many("1", "+", 30) + ";takes " + many("act", "+", 21), 152);
        faultAt(x, false, "wait times 2 if " + many("since1", "+", 49) + "=1", -1);
        faultAt(x, false, "wait times 2 if " + many("since1", "+", 49) + "=1+1", 361);
        faultAt(x, true, "lasts [[[[[[[[1]]]]]]]]", -1);
        faultAt(x, true, "lasts [[[[[[[[[1]]]]]]]]]", 14);
        faultAt(x, true, "lasts [[1]] + [[[[[[[[1]]]]]]]] + [[[1]]]", -1);
        faultAt(x, true, "bars if ((((((((1=1))))))))", -1);
        faultAt(x, true, "bars if (((((((((1=1)))))))))", 16);
        faultAt(x, true, "bars if (((([[[[1]]]]=1))))", -1);
        faultAt(x, true, "bars if (((([[[[[1]]]]]=1))))", 16);
        faultAt(x, true, "bars if " + many("not", " ", 95) + " 1=1", -1);
        faultAt(x, true, "bars if " + many("not(", "", 8) + "1=1" + many(")", "", 8), -1);
    }

    private static void stopped() {
        FadingActs x = Due.market();
        Due.orders(x, "wait;wait;read 5 by 0");
        be("17: the third", x.stopped(), 2);
        Due.law(x, "bars");
        be("17: a law is no order", x.stopped(), 2);
        Due.orders(x, "x");
        be("17: none by a fault", x.stopped(), -1);
        Due.orders(x, "read 5 by 0;wait");
        be("17: the first", x.stopped(), 0);
        Due.orders(x, "wait");
        be("17: none", x.stopped(), -1);
        Due.orders(x, "wait; read 0 by 0 times 2");
        be("17: the second time", x.stopped(), 1);
    }

    private static void force() {
        FadingActs x = Due.market();
        be("18: none stands", x.force(0), -2);
        Due.law(x, "lasts 9");
        Due.law(x, "lasts 8");
        be("18: none was", x.force(1), -1);
        be("18: not refused", x.status(), 0);
        be("18: it is", x.asks(0, 0, 0), 8);
        be("18: the other", x.force(0), 1);
        be("18: it is", x.asks(0, 0, 0), 9);
        be("18: no such", x.force(2), -2);
        be("18: no such", x.force(-2), -2);
        be("18: still", x.count(11), 0);
        be("18: none", x.force(-1), 0);
        be("18: term", x.asks(0, 0, 0), 5);
    }

    private static void asks() {
        FadingActs x = Due.market();
        be("19: lasts", x.asks(2, 1, 0), 2);
        be("19: takes", x.asks(2, 1, 1), 30);
        be("19: not barred", x.asks(2, 1, 2), 0);
        be("19: too long", x.asks(2, 1, 3), 0);
        be("19: can be", x.asks(2, 0, 3), 1);
        Due.force(x, "bars if act = 2 and reader = 0; takes 25 if act = 2; takes 26 if class = 0; lasts 5 - 6; lasts 100 if act = 1");
        be("19: barred", x.asks(2, 0, 2), 1);
        be("19: barred", x.asks(2, 0, 3), 0);
        be("19: not by another", x.asks(2, 1, 2), 0);
        be("19: the voice just enough", x.asks(2, 1, 3), 1);
        be("19: the last takes", x.asks(2, 0, 1), 26);
        be("19: lasts the nearest", x.asks(0, 0, 0), 0);
        be("19: lasts the nearest", x.asks(1, 0, 0), 99);
        x.force(-1);
        x.put(1, 3, 0);
        be("19: needs", x.asks(1, 0, 3), 0);
        x.read(0, 1);
        be("19: it holds", x.asks(1, 0, 3), 1);
        be("19: read this day", x.asks(0, 0, 3), 0);
        for (int[] b : new int[][] {{3, 0, 0}, {-1, 0, 0}, {0, 2, 0}, {0, -1, 0}, {0, 0, 4}, {0, 0, -1}}) {
            be("19: none", x.asks(b[0], b[1], b[2]), -1);
        }
    }

    /** How long a reading of act 0 by reader 0 lasts by a law with such a sum; 55 if the sum is broken. */
    private static void sum(String sum, int due) {
        FadingActs x = Due.market();
        x.terms(0, 12);
        x.terms(3, 4);
        Due.force(x, "lasts 55; lasts " + sum);
        be("II: " + sum, x.asks(0, 0, 0), due);
    }

    private static void sums() {
        sum("1+2*3", 7);
        sum("[1+2]*3", 9);
        sum("20-5-3", 12);
        sum("100/7/2", 7);
        sum("17%5*2", 4);
        sum("[0-7]/2+10", 7);
        sum("[0-7]%2+10", 9);
        sum("7/[0-2]+10", 7);
        sum("7%[0-2]+10", 11);
        sum("1/0", 55);
        sum("1%0", 55);
        sum("0*[1/0]", 55);
        sum("1000*1000*1000/1000/1000/100", 10);
        sum("[1000*1000*1000+1]/1000/1000/100", 55);
        sum("1000*1000*1000+1-1000*1000*1000", 55);
        sum("[0-1000]*1000*1000/1000/1000/100+20", 10);
        sum("[[0-1000]*1000*1000-1]/1000/1000/100+20", 55);
        sum("1000*1000*1000*1000/1000/1000/1000/100", 55);
        sum("act*10+reader", 0);
        sum("length", 10);
        sum("term", 5);
        sum("binds", 2);
        sum("class+weekday*10+mood", 54);
        sum("99", 99);
        sum("100", 99);
        sum("0-1", 0);
    }

    private static void test(String test, int due) {
        FadingActs x = Due.market();
        Due.force(x, "bars if " + test);
        be("II: " + test, x.asks(0, 0, 2), due);
    }

    private static void tests() {
        test("1<2", 1);
        test("2<2", 0);
        test("3>2", 1);
        test("2>2", 0);
        test("2=2", 1);
        test("not 2=2", 0);
        test("not not 2=2", 1);
        test("1=2 or 1=1", 1);
        test("1=1 and 1=2", 0);
        test("1=1 or 1=1 and 1=2", 1);
        test("(1=1 or 1=1) and 1=2", 0);
        test("not 1=1 or 1=1", 1);
        test("not 1=1 and 1=1", 0);
        test("not 1=2 and 1=1", 1);
        test("not (1=1 or 1=1)", 0);
        test("1=1 or 1/0=1", 1);
        test("1=2 and 1/0=1 or 1=1", 1);
        test("1/0=1 or 1=1", 0);
        test("1/0=1 and 1=2 or 1=1", 0);
        test("not 1/0=1", 0);
        test("1=2 or 1/0=1 or 1=1", 0);
        test("1=1 and 1=1 and 1/0=1", 0);
        test("1=1 or 1=2 or 1/0=1", 1);
        test("1=2 and 1=1 and 1/0=1 or 2=2", 1);
        test("not (1=2 and 1/0=1)", 1);
    }

    private static void read() {
        FadingActs x = Due.market();
        be("20: what is left", x.read(0, 0), 40);
        be("20: in the log", x.count(2), 1);
        be("20: twice a day", x.read(0, 1), -3);
        be("20: what is left", x.read(2, 0), 10);
        be("20: too long", x.read(1, 0), -3);
        be("20: by another", x.read(1, 1), 5);
        be("20: no such act", x.read(3, 0), -2);
        be("20: no such act", x.read(-1, 0), -2);
        be("20: no such reader", x.read(0, 2), -2);
        be("20: no such reader", x.read(0, MIN), -2);
        x.await();
        x.put(0, 3, 1);
        be("20: what it needs holds", x.read(0, 0), 40);
        x.terms(0, 3);
        be("20: holds no more", x.read(0, 0), -3);
        x.put(0, 3, -1);
        x.put(0, 0, 50);
        be("20: all of the voice", x.read(0, 0), 0);
        be("20: a law that takes nothing", readForNothing(x), 0);
        x = new FadingActs();
        x.act(1, 1, 1);
        x.reader(1, 0);
        for (int i = 0; i < 24; i++) {
            be("20: room", x.read(0, 0), 0);
            x.await();
        }
        be("20: no room", x.read(0, 0), -5);
        be("20: can, room aside", x.asks(0, 0, 3), 1);
        x.put(0, 0, 2);
        be("20: -3 first", x.read(0, 0), -3);
        be("20: -2 first", x.read(1, 0), -2);
    }

    private static int readForNothing(FadingActs x) {
        Due.force(x, "takes 50 if act = 0; takes 0 if act = 1");
        return x.read(1, 0);
    }

    private static void undo() {
        FadingActs x = Due.market();
        be("21: none", x.undo(), -3);
        x.read(1, 0);
        x.await();
        x.read(0, 0);
        be("21: the latest", x.undo(), 0);
        be("21: its voice is back", x.throat(0, 2), 50);
        be("21: the one ahead", x.undo(), 1);
        be("21: holds no more", x.held(1), 0);
        be("21: the day stays", x.count(12), 1);
        be("21: none", x.undo(), -3);
    }

    private static void log() {
        FadingActs x = Due.market();
        x.terms(0, 4);
        x.read(2, 0);
        x.await();
        x.read(0, 1);
        int[] due = {2, 0, 4, 2, 0, 1, 5, 5};
        for (int i = 0; i < 8; i++) be("22: log", x.log(i / 4, i % 4), due[i]);
        be("22: none", x.log(2, 0), -1);
        be("22: none", x.log(-1, 0), -1);
        be("22: none", x.log(0, 4), -1);
        be("22: none", x.log(0, -1), -1);
    }

    /** A reading lasts as the law in force tells of its own day. */
    private static void lawsAreAskedNow() {
        FadingActs x = Due.market();
        x.read(0, 0);
        x.await();
        Due.force(x, "lasts 2; lasts 9 if weekday = 1");
        be("III: of the day it was read", x.log(0, 3), 2);
        be("III: holds", x.held(1), 1);
        be("III: no more", x.held(2), 0);
        x.read(1, 0);
        be("III: of the day it was read", x.log(1, 3), 9);
        be("III: holds", x.held(9), 2);
        be("III: no more", x.held(10), 0);
        x.force(-1);
        be("III: without a law", x.held(4), 1);
        x.put(0, 1, 20);
        be("III: by another term", x.held(19), 1);
        Due.force(x, "lasts mood");
        x.terms(3, 3);
        be("III: by the mood", x.held(2), 3);
        x.terms(3, 2);
        be("III: by another mood", x.held(2), 2);
        x.terms(3, 3);
        be("III: by the mood", x.held(3), 2);
        x.read(0, 0);
        be("III: the latest alone", x.held(4), 0);
    }

    private static void await() {
        FadingActs x = Due.market();
        x.read(2, 0);
        x.read(1, 1);
        be("23: none", x.await(), 0);
        be("23: one", x.await(), 1);
        x.read(2, 0);
        be("23: another", x.await(), 1);
        be("23: and that", x.await(), 1);
        be("23: none", x.await(), 0);
        be("23: day", x.count(12), 5);
        x.terms(0, 998);
        be("23: up to 999", x.await(), 0);
        be("23: no further", x.await(), -3);
        be("23: still", x.count(12), 999);
        x = new FadingActs();
        x.act(1, 1, 1);
        x.act(1, 1, 1);
        x.reader(9, 0);
        x.read(0, 0);
        x.read(1, 0);
        be("23: both", x.await(), 2);
    }

    private static void held() {
        FadingActs x = Due.market();
        x.terms(0, 3);
        x.read(0, 0);
        x.terms(0, 6);
        x.read(2, 0);
        x.read(0, 0);
        int[] due = {0, 0, 0, 1, 1, 1, 5, 5, 1, 1, 1, 0};
        for (int d = 0; d < due.length; d++) be("24: day " + d, x.held(d), due[d]);
        be("24: the last day", x.held(999), 0);
        be("24: none", x.held(1000), -1);
        be("24: none", x.held(-1), -1);
        x.terms(0, 999);
        x.read(1, 0);
        be("24: on the last day", x.held(999), 2);
    }

    private static void bound() {
        FadingActs x = Due.market();
        x.read(0, 0);
        x.read(2, 0);
        be("25: by two", x.bound(0, 0), 5);
        be("25: by two", x.bound(1, 1), 5);
        be("25: by one", x.bound(2, 0), 4);
        be("25: later", x.bound(0, 2), 1);
        be("25: by none", x.bound(5, 2), 0);
        be("25: none", x.bound(6, 0), -1);
        be("25: none", x.bound(-1, 0), -1);
        be("25: none", x.bound(0, 1000), -1);
        be("25: none", x.bound(0, -1), -1);
    }

    private static void mornings() {
        FadingActs x = Due.market();
        be("26: one", x.mornings(1, 0, 0, 1, -1), 1);
        be("26: which", x.mornings(1, 0, 0, 1, 0), 0);
        be("26: nothing wanted", x.mornings(0, 7, 0, 5, -1), 0);
        be("26: none last", x.mornings(0, 7, 0, 5, 0), 100);
        be("26: all three", x.mornings(7, 0, 0, 3, -1), 3);
        be("26: the first row", x.mornings(7, 0, 0, 3, 0) * 10000 + x.mornings(7, 0, 0, 3, 1) * 100 + x.mornings(7, 0, 0, 3, 2), 102);
        be("26: a short one comes last", x.mornings(5, 0, 0, 3, 1), 100);
        be("26: a short one comes last", x.mornings(5, 0, 0, 3, 2), 2);
        be("26: not in two", x.mornings(7, 0, 0, 2, -1), -1);
        be("26: too long for that one", x.mornings(4, 0, 1, 5, -1), -1);
        be("26: mine and theirs", x.mornings(1, 1, 0, 1, -1), -1);
        x.put(1, 3, 2);
        be("26: what it needs first", x.mornings(2, 0, 0, 4, -1), 2);
        be("26: that row", x.mornings(2, 0, 0, 4, 0) * 10 + x.mornings(2, 0, 0, 4, 1), 1002);
        be("26: that row", x.mornings(2, 0, 0, 4, 2) * 1000 + x.mornings(2, 0, 0, 4, 3), 1100);
        be("26: and lapses again", x.mornings(2, 4, 0, 4, 0) * 1000 + x.mornings(2, 4, 0, 4, 1), 100002);
        be("26: and lapses again", x.mornings(2, 4, 0, 4, 2) * 1000 + x.mornings(2, 4, 0, 4, 3), 1100);
        be("26: not so soon", x.mornings(2, 4, 0, 1, -1), -1);
        x.read(0, 0);
        be("26: theirs holds on", x.mornings(0, 1, 0, 4, -1), -1);
        be("26: theirs lapses", x.mornings(0, 1, 0, 5, -1), 0);
        be("26: read this day already", x.mornings(1, 0, 0, 5, 0), 100);
        be("26: read this day already", x.mornings(1, 0, 0, 5, 1), 0);
        Due.force(x, "lasts 1 if weekday = 2; lasts 1 if weekday = 3");
        be("26: a reading may cut short", x.mornings(0, 1, 0, 4, -1), 1);
        be("26: on that day", x.mornings(0, 1, 0, 4, 2), 0);
        int log = x.count(2);
        be("26: on paper", log, 1);
        int[][] bad = {{8, 0, 0, 1, -1}, {0, 8, 0, 1, -1}, {-1, 0, 0, 1, -1}, {0, MIN, 0, 1, -1}, {1, 0, 2, 1, -1}, {1, 0, -1, 1, -1},
            {0, 0, 0, 0, -1}, {0, 0, 0, 6, -1}, {0, 0, 0, 2, 2}, {0, 0, 0, 2, -2}};
        for (int[] b : bad) be("26: none", x.mornings(b[0], b[1], b[2], b[3], b[4]), -1);
        x = Due.market();
        x.terms(0, 999);
        be("26: behind 999", x.mornings(7, 0, 0, 3, -1), 3);
        x = new FadingActs();
        for (int i = 0; i < 5; i++) x.act(1, 9, 1);
        for (int i = 0; i < 4; i++) x.put(i, 3, i + 1);
        x.reader(9, 0);
        be("26: a chain of five", x.mornings(1, 0, 0, 5, -1), 5);
        for (int i = 0; i < 5; i++) be("26: its row", x.mornings(1, 0, 0, 5, i), 4 - i);
        be("26: not in four", x.mornings(1, 0, 0, 4, -1), -1);
        x = full();
        be("26: of a day's term none holds behind them", x.mornings(1, 0, 0, 2, -1), -1);
        x.put(0, 1, 2);
        be("26: the log has room", x.mornings(1, 0, 0, 2, -1), 1);
    }

    /** A log of 24 readings of one act that lasts a day. */
    private static FadingActs full() {
        FadingActs x = new FadingActs();
        x.act(1, 1, 1);
        x.reader(1, 0);
        x.reader(1, 0);
        for (int i = 0; i < 24; i++) {
            x.read(0, 0);
            x.await();
        }
        return x;
    }

    private static void game() {
        FadingActs x = Due.market();
        be("27: one more", x.game(1, 0, 0, 1, 1, 0), 1);
        be("27: the first", x.game(1, 0, 0, 1, 1, 1), 0);
        be("27: nothing to win: the lowest", x.game(0, 0, 0, 1, 1, 1), 0);
        be("27: better none", x.game(0, 7, 0, 1, 1, 1), 100);
        be("27: better none", x.game(0, 7, 0, 1, 1, 0), 0);
        x.put(2, 1, 3);
        be("27: the other wants few", x.game(4, 3, 0, 1, 2, 0), 0);
        be("27: what to read", x.game(4, 3, 0, 1, 2, 1), 2);
        x.put(2, 1, 2);
        be("27: below 0", x.game(0, 3, 0, 1, 2, 0), -1);
        be("27: below 0: take it first? it would hold", x.game(0, 3, 0, 1, 2, 1), 2);
        be("27: in both", x.game(1, 1, 0, 1, 1, 0), 0);
        Due.force(x, "lasts 1 if reader = 1");
        be("27: the other cuts short", x.game(1, 0, 0, 1, 2, 0), 0);
        be("27: then the last word counts", x.game(1, 0, 0, 1, 3, 0), 1);
        be("27: the other, first", x.game(1, 0, 1, 0, 2, 0), 0);
        x.terms(0, 999);
        be("27: behind 999", x.game(1, 0, 0, 1, 3, 0), 1);
        int[][] bad = {{1, 0, 0, 0, 1, 0}, {8, 0, 0, 1, 1, 0}, {0, -1, 0, 1, 1, 0}, {1, 0, 2, 1, 1, 0}, {1, 0, 0, -1, 1, 0},
            {1, 0, 0, 1, 0, 0}, {1, 0, 0, 1, 5, 0}, {1, 0, 0, 1, 1, 2}, {1, 0, 0, 1, 1, -1}};
        for (int[] b : bad) be("27: nothing", x.game(b[0], b[1], b[2], b[3], b[4], b[5]), -1000);
        be("27: on paper", x.count(2), 0);
        x = full();
        x.put(0, 1, 2);
        be("27: the log has room", x.game(1, 0, 0, 1, 3, 0), 1);
        be("27: the other reads last, and does not", x.game(1, 0, 0, 1, 4, 0), 0);
    }

    private static void dead() {
        FadingActs x = Due.market();
        be("28: none", x.dead(), 0);
        x.put(2, 0, 51);
        be("28: nobody's voice is enough", x.dead(), 4);
        x.put(0, 3, 2);
        x.put(1, 3, 0);
        be("28: nor what needs it", x.dead(), 7);
        x.put(2, 0, 50);
        be("28: all of the voice", x.dead(), 0);
        x.put(2, 3, 1);
        be("28: each needs another", x.dead(), 7);
        x.put(2, 3, -1);
        x.read(2, 0);
        x.put(2, 0, 60);
        be("28: one holds still, others by it", x.dead(), 0);
        x.terms(0, 2);
        be("28: no more", x.dead(), 7);
        x.put(2, 0, 30);
        for (int w = 0; w < 7; w++) x.listen(w, w == 3 ? 32 : 3);
        be("28: one weekday is enough", x.dead(), 2);
        x.put(1, 2, 32);
        be("28: one weekday is enough", x.dead(), 0);
        Due.force(x, "bars if act = 0 and not (weekday = 6 and reader = 1)");
        be("28: one reader is enough", x.dead(), 0);
        Due.force(x, "bars if act = 0");
        be("28: barred, and what needs it", x.dead(), 3);
        x.gainsay(1, 2, 1);
        be("28: gainsaying aside", x.dead(), 3);
        FadingActs y = new FadingActs();
        y.act(1, 1, 1);
        be("28: no reader", y.dead(), 1);
        y.reader(1, 0);
        for (int w = 0; w < 7; w++) {
            for (int v = 0; v < 7; v++) y.listen(v, v == w ? 1 : 0);
            be("28: weekday " + w + " is enough", y.dead(), 0);
        }
        for (int i = 1; i < 8; i++) y.act(1, 1, 1);
        for (int i = 0; i < 7; i++) y.put(i, 3, i + 1);
        be("28: a chain of eight", y.dead(), 0);
        y.put(7, 0, 2);
        be("28: and its end", y.dead(), 255);
    }

    private static void throats() {
        FadingActs x = Due.market();
        x.reader(25, 2);
        be("29: one for all? 60 minutes", x.throats(7, 0), 2);
        be("29: the lowest", x.throats(7, 1), 3);
        be("29: one", x.throats(5, 0), 1);
        be("29: which", x.throats(5, 1), 1);
        be("29: lowest of alike", x.throats(2, 1), 1);
        x.read(2, 0);
        be("29: the log aside", x.throats(5, 1), 1);
        x.put(0, 3, 1);
        x.listen(0, 0);
        be("29: needs and listeners aside", x.throats(5, 1), 1);
        Due.force(x, "bars if reader = 0 and act = 1; bars if reader = 1 and act = 1; takes 16 if act = 0");
        be("29: barred", x.throats(2, 1), 4);
        be("29: two", x.throats(3, 1), 5);
        be("29: two", x.throats(3, 0), 2);
        Due.force(x, "bars if act = 1");
        be("29: none can", x.throats(3, 0), -1);
        x.force(-1);
        x.gainsay(0, 2, 1);
        be("29: gainsaid", x.throats(5, 0), -1);
        be("29: not gainsaid", x.throats(3, 0), 1);
        x.put(2, 0, 60);
        be("29: too long", x.throats(4, 0), -1);
        for (int[] b : new int[][] {{0, 0}, {8, 0}, {-1, 0}, {1, 2}, {1, -1}}) be("29: none", x.throats(b[0], b[1]), -1);
        FadingActs y = new FadingActs();
        y.act(1, 1, 1);
        be("29: no reader", y.throats(1, 0), -1);
        for (int i = 1; i < 4; i++) y.act(20, 1, 1);
        y.put(0, 0, 20);
        for (int i = 0; i < 4; i++) y.reader(i == 3 ? 99 : 20, 0);
        be("29: one has voice for all", y.throats(15, 1), 8);
        Due.force(y, "bars if reader = 3 and act < 3");
        be("29: all four", y.throats(15, 1), 15);
        be("29: all four", y.throats(15, 0), 4);
        be("29: a voice just enough", y.throats(1, 1), 1);
        Due.force(y, "bars if reader = 3; takes 21");
        be("29: barred from the loudest", y.throats(1, 1), -1);
    }

    private static void days() {
        FadingActs x = new FadingActs();
        for (int i = 0; i < 8; i++) x.act(1, 1, 1);
        be("30: none gainsays", x.days(255, -1), 1);
        be("30: all on the first", x.days(255, 7), 0);
        x.gainsay(0, 2, 1);
        x.gainsay(2, 4, 1);
        be("30: two", x.days(21, -1), 2);
        be("30: row", x.days(21, 0) * 100 + x.days(21, 1) * 10 + x.days(21, 2), 10);
        be("30: only told ones", x.days(17, -1), 1);
        x.gainsay(0, 4, 1);
        be("30: three", x.days(21, -1), 3);
        be("30: the i-th told", x.days(20, 1), 1);
        be("30: row", x.days(21, 2), 2);
        // A ring of five, and one that greed alone would get wrong: 0-3, 3-4, 4-1 makes 0, 0, 1, 2.
        FadingActs y = new FadingActs();
        for (int i = 0; i < 4; i++) y.act(1, 1, 1);
        y.gainsay(0, 2, 1);
        y.gainsay(2, 3, 1);
        y.gainsay(3, 1, 1);
        be("30: two are enough", y.days(15, -1), 2);
        be("30: so 1 is not with 0", y.days(15, 0) * 1000 + y.days(15, 1) * 100 + y.days(15, 2) * 10 + y.days(15, 3), 110);
        for (int i = 0; i < 8; i++) for (int j = 0; j < i; j++) x.gainsay(i, j, 1);
        be("30: eight", x.days(255, -1), 8);
        for (int i = 0; i < 8; i++) be("30: each its own", x.days(255, i), i);
        for (int[] b : new int[][] {{0, -1}, {256, -1}, {-1, -1}, {3, 2}, {3, -2}, {3, MAX}}) be("30: none", x.days(b[0], b[1]), -1);
    }

    private static void likely() {
        FadingActs x = Due.market();
        long all = 1000000000000L;
        be("31: not long", x.likely(0, 0, 60), all);
        be("31: dry enough at 20", x.likely(1, 0, 60), all);
        be("31: rain", x.likely(2, 0, 0), 700000000000L);
        be("31: a day more", x.likely(2, 0, 1), 700000000000L);
        be("31: two more", x.likely(2, 0, 2), 637000000000L);
        be("31: the voice is not enough", x.likely(2, 1, 0), 0);
        x.read(2, 0);
        be("31: this day's reading aside", x.likely(2, 0, 0), 700000000000L);
        x.await();
        be("31: the one ahead counts", x.likely(2, 0, 0), all);
        be("31: the one ahead counts", x.likely(2, 0, 1), 910000000000L);
        x.read(2, 0);
        be("31: this day's aside, again", x.likely(2, 0, 1), 910000000000L);
        x.undo();
        x.await();
        be("31: no more", x.likely(2, 0, 0), 700000000000L);
        x.terms(1, 10);
        be("31: always rain", x.likely(2, 0, 0), 0);
        x.terms(2, 30);
        be("31: as long as dry", x.likely(2, 0, 60), all);
        x.terms(2, 29);
        x.terms(1, 0);
        be("31: never rain", x.likely(2, 0, 60), all);
        x.put(0, 3, 1);
        x.gainsay(0, 2, 1);
        be("31: needs, gainsaying aside", x.likely(0, 0, 3), all);
        x.listen(2, 0);
        be("31: nobody listens", x.likely(0, 0, 0), 0);
        Due.force(x, "bars if act = 1");
        be("31: barred", x.likely(1, 0, 0), 0);
        cutParts();
        longParts();
        for (int[] b : new int[][] {{3, 0, 0}, {-1, 0, 0}, {0, 2, 0}, {0, -1, 0}, {0, 0, -1}, {0, 0, 61}}) {
            be("31: none", x.likely(b[0], b[1], b[2]), -1);
        }
    }

    private static void longParts() {
        FadingActs x = new FadingActs();
        x.act(30, 1, 1);
        x.reader(30, 0);
        x.terms(1, 10);
        Due.force(x, "lasts 99");
        x.read(0, 0);
        x.await();
        be("31: 98 days left", x.likely(0, 0, 60), 1000000000000L);
        x.terms(0, 38);
        be("31: 61 days left", x.likely(0, 0, 60), 1000000000000L);
        x.terms(0, 39);
        be("31: 60 days left", x.likely(0, 0, 60), 0);
        be("31: 60 days left", x.likely(0, 0, 59), 1000000000000L);
        x.terms(1, 0);
        be("31: 99 days", x.likely(0, 0, 60), 1000000000000L);
        Due.force(x, "lasts 99; bars if weekday < 6");
        x.undo();
        be("31: a reading of 99 days on weekday 6 alone", x.likely(0, 0, 0), 0);
        x.terms(0, 41);
        be("31: holds on", x.likely(0, 0, 60), 1000000000000L);
        x.terms(0, 993);
        be("31: behind 999", x.likely(0, 0, 60), 1000000000000L * (993 % 7 == 6 ? 1 : 0));
    }

    /** An act of a day's term must be read every day: 7 tenths of what was, cut each time. */
    private static void cutParts() {
        FadingActs x = new FadingActs();
        x.act(30, 1, 1);
        x.reader(30, 0);
        long parts = 1000000000000L;
        for (int n = 0; n <= 60; n++) {
            parts = parts * 7 / 10;
            be("31: cut", x.likely(0, 0, n), parts);
        }
        x.put(0, 1, 2);
        // Read this day, and read the day before; what is older holds no more.
        long now = 700000000000L;
        long before = 0;
        for (int n = 1; n <= 60; n++) {
            long read = now * 7 / 10 + before * 7 / 10;
            before = now * 3 / 10;
            now = read;
            be("31: cut in two", x.likely(0, 0, n), now + before);
        }
    }

    private static void fines() {
        FadingActs x = Due.market();
        be("32: one", x.fine(0, 0, 0, 1), 1);
        be("34: not so", x.judge(), 0);
        x.read(0, 0);
        be("34: so", x.judge(), 1);
        be("32: two", x.fine(5, 0, 0, 0), 2);
        be("34: so", x.judge(), 1);
        be("32: three", x.fine(4, 1, 0, 0), 3);
        be("34: bound still", x.judge(), 0);
        be("33: three", x.forgive(), 3);
        be("33: none", x.forgive(), 0);
        be("34: none", x.judge(), 1);
        be("32: not bound", x.fine(0, 2, 0, 1), 1);
        be("34: it binds others", x.judge(), 0);
        int[][] bad = {{-1, 0, 0, 0}, {1000, 0, 0, 0}, {0, -1, 0, 0}, {0, 6, 0, 0}, {0, 0, 0, 2}, {0, 0, 0, -1}, {0, 6, 9, 0}};
        for (int[] b : bad) be("32: can't be", x.fine(b[0], b[1], b[2], b[3]), -1);
        be("32: no such act", x.fine(0, 0, 3, 0), -2);
        be("32: no such act", x.fine(0, 0, -1, 0), -2);
        for (int i = 2; i <= 8; i++) be("32: how many", x.fine(999, 5, 2, 0), i);
        be("32: no room", x.fine(0, 0, 0, 0), -5);
        be("32: -2 first", x.fine(0, 0, 3, 0), -2);
        be("33: eight", x.forgive(), 8);
    }

    private static void unwritten() {
        FadingActs x = Due.market();
        be("35: no fine: all of this day", x.unwritten(-1), 6);
        be("35: the last of them", x.unwritten(5), 10);
        be("35: none", x.unwritten(6), -1);
        be("35: none", x.unwritten(-2), -1);
        x.terms(0, 100);
        be("35: of 30 days", x.unwritten(-1), 180);
        be("35: the last of them", x.unwritten(179), 29 * 32 + 8 + 2);
        x.fine(98, 2, 1, 1);
        be("35: act 1 on 96 .. 98", x.unwritten(-1), 6);
        int[] due = {64 + 1, 64 + 8 + 1, 96 + 1, 96 + 8 + 1, 128 + 1, 128 + 8 + 1};
        for (int i = 0; i < 6; i++) be("35: rising", x.unwritten(i), due[i]);
        x.fine(97, 2, 1, 0);
        be("35: on 98 alone", x.unwritten(-1), 2);
        x.fine(100, 2, 1, 1);
        be("35: still", x.unwritten(0), 65);
        x.fine(99, 0, 0, 1);
        be("35: not by one", x.unwritten(-1), 0);
        x.forgive();
        x.read(1, 0);
        x.fine(101, 2, 1, 0);
        Due.force(x, "lasts 1 if reader = 1");
        be("35: told later than all others", x.unwritten(-1), 1);
        be("35: by reader 1 this day", x.unwritten(0), 9);
        x.forgive();
        x.force(-1);
        x.put(2, 0, 60);
        x.fine(100, 5, 2, 1);
        be("35: whether it could be is not asked", x.unwritten(-1), 4);
        be("35: the log is as it was", x.count(2), 1);
    }

    private static void years() {
        FadingActs x = new FadingActs();
        be("36: no acts", x.years(0, 1), -3);
        x.act(10, 2, 1);
        be("36: no readers", x.years(0, 1), -3);
        be("37: none yet", x.drawn(0, 0), -1);
        x.reader(10, 0);
        be("36: each day", x.years(5, 60), 60);
        be("37: how often", x.drawn(0, 0), 60);
        be("37: held", x.drawn(0, 1), 60);
        x.terms(2, 9);
        x.terms(1, 10);
        be("36: always rain", x.years(1000000, 60), 0);
        be("37: none", x.drawn(0, 0), 0);
        be("37: none", x.drawn(0, 1), 0);
        x.terms(1, 0);
        x.terms(0, 998);
        be("36: ends behind 999", x.years(7, 60), 2);
        be("36: on paper", x.count(2) * 1000 + x.count(12), 998);
        int[][] bad = {{-1, 1}, {1000001, 1}, {0, 0}, {0, 61}, {MIN, MAX}};
        for (int[] b : bad) be("36: can't be", x.years(b[0], b[1]), -1);
        be("37: of the latest not refused", x.drawn(0, 0), 2);
        be("37: no such", x.drawn(1, 0), -1);
        be("37: no such", x.drawn(-1, 0), -1);
        be("37: no such what", x.drawn(0, 2), -1);
        be("37: no such what", x.drawn(0, -1), -1);
        FadingActs y = Due.market();
        // Draws of seed 0: 12345 628841 632539 ..: no rain, act 628841 % 3 = 2, reader 632539 % 2 = 1, whose voice is 25.
        be("36: by draws", y.years(0, 1), 0);
        for (int rain = 0; rain <= 10; rain++) byDraws(4711 + rain, rain);
        be("36: the log has room", full().years(3, 60), 60);
    }

    private static void byDraws(int seed, int rain) {
        FadingActs x = Due.market();
        x.terms(1, rain);
        long s = seed;
        int[] often = new int[3];
        int[] held = new int[3];
        int[] until = new int[3];
        int all = 0;
        for (int d = 0; d < 30; d++) {
            s = (s * 1103 + 12345) % 1000003;
            boolean rains = s % 10 < rain;
            s = (s * 1103 + 12345) % 1000003;
            int act = (int) (s % 3);
            s = (s * 1103 + 12345) % 1000003;
            int reader = (int) (s % 2);
            boolean loud = act < 2 || reader == 0;
            if (loud && !(rains && act == 2)) {
                often[act]++;
                all++;
                until[act] = d + new int[] {5, 3, 2}[act];
            }
            for (int a = 0; a < 3; a++) if (d < until[a]) held[a]++;
        }
        be("36: thirty days", x.years(seed, 30), all);
        for (int a = 0; a < 3; a++) {
            be("37: how often", x.drawn(a, 0), often[a]);
            be("37: on how many days", x.drawn(a, 1), held[a]);
        }
    }

    private static void images() {
        FadingActs x = Due.market();
        be("38: can't be", x.image(2), -1);
        be("38: can't be", x.image(-1), -1);
        be("39: can't be", x.back(2), -1);
        be("39: can't be", x.back(-1), -1);
        be("39: not kept", x.back(0), -2);
        Due.law(x, "lasts 7");
        x.force(0);
        x.fine(0, 0, 0, 1);
        x.gainsay(0, 1, 1);
        x.listen(3, 5);
        x.terms(3, 8);
        x.read(0, 0);
        be("38: kept", x.image(0), 0);
        be("39: the other is not", x.back(1), -2);
        x.await();
        x.read(1, 0);
        x.put(0, 0, 60);
        x.act(1, 1, 1);
        x.reader(1, 1);
        x.gainsay(0, 1, 0);
        x.listen(3, 6);
        x.terms(1, 9);
        x.terms(3, 1);
        Due.law(x, "takes 1");
        x.force(1);
        x.forgive();
        be("38: the other", x.image(1), 0);
        x.years(0, 9);
        int drawn = x.drawn(3, 1);
        Due.tape(x, new byte[] {1, 2, 3});
        be("39: back", x.back(0), 0);
        int[] due = {3, 2, 1, 1, 1, 3};
        for (int i = 0; i < 6; i++) be("39: count " + i, x.count(i), due[i]);
        be("39: law in force", x.count(11), 0);
        be("39: day", x.count(12), 0);
        be("39: rain", x.count(13), 3);
        be("39: mood", x.count(15), 8);
        be("39: length", x.of(0, 0), 10);
        be("39: the law", x.asks(0, 0, 0), 7);
        be("39: gainsaying", x.gainsay(0, 1, 1), 1);
        be("39: listeners", x.listen(3, 5), 5);
        be("39: the log", x.held(6) * 10 + x.held(7), 10);
        be("39: the years stay", x.drawn(3, 1), drawn);
        be("39: another law takes its number", Due.law(x, "lasts 33"), 1);
        be("39: to the other", x.back(1), 0);
        be("39: its law is its own", x.asks(2, 0, 1), 1);
        be("39: its log", x.count(2), 2);
        be("39: its acts", x.count(0), 4);
        be("39: images stay", x.back(0) + x.back(1) + x.back(0), 0);
        be("39: as it was", x.count(0), 3);
        rowsComeBack();
        x.undo();
        be("38: kept anew", x.image(0), 0);
        x.back(1);
        x.back(0);
        be("39: the newer", x.count(2), 0);
    }

    /** What was written over in the meantime is as it was, too. */
    private static void rowsComeBack() {
        FadingActs x = new FadingActs();
        x.image(1);
        x.act(10, 9, 1);
        x.act(10, 9, 2);
        x.reader(40, 3);
        x.reader(30, 4);
        x.read(1, 1);
        x.await();
        x.read(0, 0);
        x.fine(0, 1, 1, 1);
        x.fine(7, 0, 0, 1);
        Due.force(x, "takes 3");
        x.image(0);
        x.back(1);
        be("39: nothing", x.count(0) + x.count(1) + x.count(2) + x.count(3) + x.count(4), 0);
        x.act(20, 2, 4);
        x.act(20, 2, 8);
        x.reader(50, 1);
        x.reader(60, 2);
        x.terms(0, 3);
        x.read(0, 1);
        x.read(1, 0);
        x.fine(5, 5, 0, 1);
        x.fine(6, 4, 1, 0);
        Due.force(x, "takes 4");
        x.back(0);
        int[] log = {1, 1, 0, 9, 0, 0, 1, 9};
        for (int i = 0; i < 8; i++) be("39: log", x.log(i / 4, i % 4), log[i]);
        be("39: voices", x.throat(0, 0) * 100 + x.throat(1, 0), 4030);
        be("39: classes", x.throat(0, 1) * 100 + x.throat(1, 1), 304);
        be("39: fines", x.judge(), 1);
        x.undo();
        be("39: fines", x.judge(), 0);
        be("39: fines", x.unwritten(0), 0);
        x.undo();
        be("39: fines", x.unwritten(-1), 0);
        be("39: the first law", x.asks(0, 0, 1), 3);
    }

    private static void count() {
        FadingActs x = Due.market();
        x.act(0, 0, 0);
        x.read(9, 9);
        x.back(0);
        x.undo();
        for (int i = 0; i < 3; i++) x.reader(1, 1);
        x.image(0);
        x.row();
        Due.orders(x, "?");
        x.back(0);
        int[] due = {3, 4, 0, 0, 0, 0, 1, 2, 1, 1, 2, -1, 0, 3, 20, 0};
        for (int i = 0; i < due.length; i++) be("40: count " + i, x.count(i), due[i]);
        be("40: none", x.count(16), -1);
        be("40: none", x.count(-1), -1);
        be("40: none", x.count(MIN), -1);
        x.of(9, 9);
        x.held(-1);
        x.feed(0, 0, 0, 0, 0);
        x.end(99);
        be("40: what answers NONE is not refused", x.count(6) + x.count(7), 3);
        Due.orders(x, "read 9 by 9");
        be("40: once for orders", x.count(7) * 10 + x.count(8), 22);
    }

    private static void status() {
        FadingActs x = new FadingActs();
        be("41: ahead of any", x.status(), 0);
        x.undo();
        be("41: undo", x.status(), -3);
        x.of(0, 0);
        x.feed(0, 0, 0, 0, 0);
        x.end(-1);
        x.end(0);
        x.forgive();
        x.judge();
        x.dead();
        x.held(-1);
        be("41: others leave it", x.status(), -3);
        x.act(1, 1, 1);
        be("41: act", x.status(), 0);
        x.act(0, 0, 0);
        be("41: act", x.status(), -1);
        x.listen(0, 63);
        be("41: listen", x.status(), 0);
        x.listen(9, 9);
        be("41: listen", x.status(), -1);
        x.image(0);
        be("41: image", x.status(), 0);
        x.image(3);
        be("41: image", x.status(), -1);
        x.back(0);
        be("41: back", x.status(), 0);
        x.back(1);
        be("41: back", x.status(), -2);
        x.reader(5, 5);
        be("41: reader", x.status(), 0);
        x.reader(0, 5);
        be("41: reader", x.status(), -1);
        x.terms(1, 1);
        be("41: terms", x.status(), 0);
        x.terms(9, 9);
        be("41: terms", x.status(), -1);
        x.read(0, 0);
        be("41: read", x.status(), 0);
        x.read(0, 0);
        be("41: read", x.status(), -3);
        x.put(0, 0, 9);
        be("41: put", x.status(), 0);
        x.put(1, 0, 9);
        be("41: put", x.status(), -2);
        x.await();
        be("41: await", x.status(), 0);
        x.gainsay(0, 1, 1);
        be("41: gainsay", x.status(), -2);
        x.force(-1);
        be("41: force", x.status(), 0);
        x.force(1);
        be("41: force", x.status(), -2);
        x.fine(0, 0, 0, 0);
        be("41: fine", x.status(), 0);
        x.fine(0, 0, 1, 0);
        be("41: fine", x.status(), -2);
        x.years(0, 1);
        be("41: years", x.status(), 0);
        x.years(0, 0);
        be("41: years", x.status(), -1);
        Due.law(x, "bars");
        be("41: law", x.status(), 0);
        Due.law(x, "bar");
        be("41: law", x.status(), -6);
        Due.orders(x, "wait");
        be("41: orders", x.status(), 0);
        Due.orders(x, "read 0 by 1");
        be("41: orders", x.status(), -3);
        x.undo();
        be("41: undo", x.status(), 0);
        x.row();
        be("41: row", x.status(), -6);
        Due.tape(x, new byte[] {1});
        x.row();
        be("41: row", x.status(), 0);
    }
}
