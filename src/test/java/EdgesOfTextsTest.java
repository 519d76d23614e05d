/** The sentences of II and of promises 10 to 18 that name an edge. */
public final class EdgesOfTextsTest extends Edges {
    public static void main(String[] args) {
        feedsFourHundred();
        feedsHighestFirst();
        endOfTape();
        tokens();
        blanks();
        twelveClauses();
        clausesOfLaws();
        clausesOfOrders();
        testsOfTexts();
        sumsOfTexts();
        numbers();
        fiftyParts();
        fiftyOfEachText();
        notParts();
        eightBrackets();
        faultAtTheEnd();
        beyond();
        dividedByNothing();
        cutTowardsNothing();
        orAndAnd();
        sixLaws();
        lawIsEmptiedFirst();
        blanksAlone();
        noLawAtFirst();
        wordsOfLaws();
        aClauseHolds();
        lastsTheNearest();
        takesTheNearest();
        barred();
        forceIsRefused();
        times();
        sinceAndVoice();
        askedEachTime();
        wordsOfOrders();
        sumsFromTheLeft();
        whollyOrNot();
        ordersNoRoom();
        ordersFault();
        howManyWereRun();
        faultOfTheLatest();
        stoppedWhere();
        close();
    }

    private static final int GOOD = -1;

    /** Where the fault of a text is that is read by an object of its own; GOOD: none. */
    private static void fault(boolean isLaw, String text, int at) {
        FadingActs x = Due.market();
        int answer = isLaw ? Due.law(x, text) : Due.orders(x, text);
        String told = (isLaw ? "law() of '" : "orders() of '") + text + "'";
        be(told, answer == -6 ? 1 : 0, at == GOOD ? 0 : 1);
        be("fault() of '" + text + "'", x.fault(), at);
        be("status() of '" + text + "'", x.status() == -6 ? 1 : 0, at == GOOD ? 0 : 1);
        be("count(5), the TAPE is empty then", x.count(5), 0);
        be("count(4)", x.count(4), isLaw && at == GOOD ? 1 : 0);
    }

    private static void law(String text, int at) { fault(true, text, at); }

    private static void orders(String text, int at) { fault(false, text, at); }

    private static void both(String test, int at) {
        law("bars if " + test, at == GOOD ? GOOD : at + 8);
        orders("wait if " + test, at == GOOD ? GOOD : at + 8);
    }

    /** What a law's sum comes to (0 .. 99) for ACT 0, READER 0, DAY 12, MOOD 4; 55 if it is BROKEN. */
    private static void sum(String sum, int due) {
        FadingActs x = Due.market();
        x.terms(0, 12);
        x.terms(3, 4);
        Due.force(x, "lasts 55; lasts " + sum);
        be(sum, x.asks(0, 0, 0), due);
    }

    /** Whether a test is so in laws and in orders. */
    private static void test(String test, int due) {
        FadingActs x = Due.market();
        Due.force(x, "bars if " + test);
        be("bars if " + test, x.asks(0, 0, 2), due);
        be("wait if " + test, Due.orders(x, "wait if " + test), due);
    }

    private static void feedsFourHundred() {
        says("Promise 10", "NONE, if there would be more than 400.");
        FadingActs x = new FadingActs();
        for (int i = 1; i <= 20; i++) be("feed() " + i, x.feed(0, 0, 0, 0, 0), 20 * i);
        be("feed() 21", x.feed(0, 0, 0, 0, 0), -1);
        be("count(5)", x.count(5), 400);
        for (int n = 399; n > 380; n--) {
            be("end(" + n + ")", x.end(n), n);
            be("feed() behind " + n, x.feed(0, 0, 0, 0, 0), -1);
            be("count(5)", x.count(5), n);
        }
        be("end(380)", x.end(380), 380);
        be("feed() behind 380", x.feed(0, 0, 0, 0, 0), 400);
        be("status()", x.status(), 0);
        be("count(6), count(9)", x.count(6) + x.count(9), 0);
    }

    private static void feedsHighestFirst() {
        says("Promise 10", "four of each number, the highest first");
        FadingActs x = new FadingActs();
        x.feed(0x01020300, 0x02030401, 0x03040502, 0x04050603, 0x05060704);
        x.feed(0x3c1e3f05, 0xff010100, 0x80010100, 0x01ff0100, 0x0101ff00);
        be("row()", x.row(), 6);
        be("mud()", x.mud(), 4);
        for (int a = 0; a < 5; a++) {
            for (int what = 0; what < 3; what++) be("of(" + a + ", " + what + ")", x.of(a, what), a + what + 1);
            be("of(" + a + ", 3)", x.of(a, 3), a - 1);
        }
        be("of(5, .)", x.of(5, 0) * 10000 + x.of(5, 1) * 100 + x.of(5, 2), 603063);
        be("of(5, 3)", x.of(5, 3), 4);
    }

    private static void endOfTape() {
        says("Promise 11", "NONE, if it has not so many, or n is below 0.");
        FadingActs x = new FadingActs();
        be("end(0), empty", x.end(0), 0);
        be("end(1), empty", x.end(1), -1);
        x.feed(0, 0, 0, 0, 0);
        for (int n : new int[] {21, 22, 400, MAX, -1, -2, MIN}) be("end(" + n + ")", x.end(n), -1);
        be("count(5)", x.count(5), 20);
        be("end(20), all of it", x.end(20), 20);
        be("end(19)", x.end(19), 19);
        be("end(20), no more", x.end(20), -1);
        be("end(0)", x.end(0), 0);
        be("count(5)", x.count(5), 0);
        be("status()", x.status(), 0);
    }

    private static void tokens() {
        says("II, Promises 14, 15", "TOKENS: longest rows of letters a .. z, of digits, single other bytes, any blanks (32) between.");
        law("lasts1if1=1", GOOD);
        law("lasts 1if act=1;bars", GOOD);
        law("lastsact", 0);
        law("lasts act1", 9);
        law("lasts 1 1", 8);
        law("lasts 11", GOOD);
        law("barsif 1=1", 0);
        law("lasts [[1]]", GOOD);
        law("bars;;bars", 5);
        law("Bars", 0);
        law("barsa", 0);
        law("barsz", 0);
        law("lasts0", GOOD);
        law("lasts9", GOOD);
        law(many(" ", "", 397) + "las", 397);
        law(many(" ", "", 396) + "bars", GOOD);
        orders(many(" ", "", 397) + "wai", 397);
        law("baRs", 0);
        law("lasts 1 if 1==1", 13);
        law("lasts 1+-1", 8);
        law("lasts -1", 6);
        // The neighbours of a, z, 0, 9 and of the blank, and bytes that no sign is.
        for (int n : new int[] {'`', '{', '/', ':', 31, 33, 0, 9, 10, 127, 128, 160, 255}) law("bars" + (char) n, 4);
        for (int n : new int[] {'`', '{', ':', 31, 33, 0, 9, 10, 127, 128, 160, 255}) law("lasts 1" + (char) n + "1", 7);
        orders("read0by0times1if1=1;wait", GOOD);
        orders("read 0by0", GOOD);
        orders("readx 0 by 0", 0);
        orders("wait times20", GOOD);
    }

    private static void blanks() {
        says("II, Promises 14, 15", "any blanks (32) between.");
        law(" bars", GOOD);
        law("bars    ", GOOD);
        law("   lasts   1   if   (   1   =   1   )   ;   bars   ", GOOD);
        law("ba rs", 0);
        law("lasts 1 0", 8);
        orders("  wait  times  2  if  since  0  <  5", GOOD);
        orders("wait times 2if since0<5", GOOD);
    }

    private static void twelveClauses() {
        says("II, Promises 14, 15", "12 at most (FAULT at the 13th's first TOKEN)");
        law(many("bars", ";", 12), GOOD);
        law(many("bars", ";", 13), 60);
        law(many("bars", ";", 14), 60);
        law(many("bars", ";", 12) + "; 7", 61);
        law(many("bars", ";", 12) + ";", 60);
        law(many("bars", ";", 12) + ";   ", 63);
        law(many("bars", ";", 12) + " bars", 60);
        orders(many("wait", ";", 12), GOOD);
        orders(many("wait", ";", 13), 60);
        orders(many("wait", ";", 12) + ";  read", 62);
        FadingActs x = Due.market();
        Due.force(x, many("lasts 7", ";", 11) + ";lasts 9");
        be("asks(0, 0, 0), by the 12th", x.asks(0, 0, 0), 9);
        be("orders(), 12 of them", Due.orders(x, many("wait", ";", 12)), 12);
    }

    private static void clausesOfLaws() {
        says("II, Promise 14", "CLAUSE: ((\"lasts\" | \"takes\") SUM | \"bars\") [\"if\" TEST].");
        for (String good : new String[] {"lasts 1", "takes 1", "bars", "lasts 1 if 1=1", "takes 1 if 1=1", "bars if 1=1", "bars;lasts 1"}) law(good, GOOD);
        law("lasts", 5);
        law("takes", 5);
        law("lasts if 1=1", 6);
        law("lasts (1)", 6);
        law("bars 1", 5);
        law("bars if", 7);
        law("bars bars", 5);
        law("bars lasts 1", 5);
        law("lasts 1 if 1=1 if 1=1", 15);
        law("lasts 1 times 2", 8);
        law("takes 1 by 1", 8);
        law("wait", 0);
        law("read 0 by 0", 0);
        law("if 1=1", 0);
        law("last 1", 0);
        law("lastss 1", 0);
        law(";", 0);
        law("7", 0);
        law("bars,bars", 4);
    }

    private static void clausesOfOrders() {
        says("II, Promise 15", "CLAUSE: (\"read\" SUM \"by\" SUM | \"wait\") [\"times\" TIMES] [\"if\" TEST].");
        for (String good : new String[] {"wait", "read 0 by 0", "wait times 2", "wait if 1=1", "wait times 2 if 1=1", "read [0] by [0]",
            "read 0 by 0 times 1 if 1=1"}) orders(good, GOOD);
        orders("read", 4);
        orders("read 0", 6);
        orders("read 0 by", 9);
        orders("read by 0", 5);
        orders("read 0 0", 7);
        orders("read (0) by 0", 5);
        orders("read 0 by 0 by 0", 12);
        orders("read 0 times 2 by 0", 7);
        orders("wait 1", 5);
        orders("wait by 0", 5);
        orders("wait if 1=1 times 2", 12);
        orders("wait times 2 times 2", 13);
        orders("wait if", 7);
        orders("times 2", 0);
        orders("bars", 0);
        orders("lasts 1", 0);
        orders("waits", 0);
    }

    private static void testsOfTexts() {
        says("II, Promises 14, 15", "PLAIN: \"not\" PLAIN | \"(\" TEST \")\" | SUM");
        for (String good : new String[] {"1=1", "1<1", "1>1", "not 1=1", "not not 1=1", "not(1=1)", "(not 1=1)", "[1]=[1]", "1=1 or not 1=1",
            "1=1 and 1=1 or 1=1 and 1=1", "(1=1 or 1=1) and(1=1)", "((1=1))", "1+1=1*1", "not(not(not 1=1))"}) both(good, GOOD);
        both("", 0);
        both("1", 1);
        both("1=", 2);
        both("=1", 0);
        both("1=1=1", 3);
        both("1<1>1", 3);
        both("1<=1", 2);
        both("1!1", 1);
        both("not", 3);
        both("not 1", 5);
        both("notnot 1=1", 0);
        both("1=not 1", 2);
        both("1=1 not 1=1", 4);
        both("1=1 or", 6);
        both("1=1 and", 7);
        both("or 1=1", 0);
        both("and 1=1", 0);
        both("1=1 or or 1=1", 7);
        both("1=1 and and 1=1", 8);
        both("1=1 or and 1=1", 7);
        both("(", 1);
        both("(1=", 3);
        both("(not", 4);
        both("(1=1 or", 7);
        both("((1=1)", 6);
        both("not(1=1 and", 11);
        both("[", 1);
        both("[1+", 3);
        both("1=[1*", 5);
        both("()", 1);
        both("(1=1", 4);
        both("1=1)", 3);
        both("(1)=1", 2);
        both("(1=1)=1", 5);
        both("(1=1]", 4);
        both("[1=1]", 2);
        both("[1)=1", 2);
        both("(1=1 1=1)", 5);
        both("1=1 1=1", 4);
        both(many("not", " ", 90) + " 1=1", GOOD);
        both(many("not", " ", 90), 359);
    }

    private static void sumsOfTexts() {
        says("II, Promises 14, 15", "SUM: TERM {(\"+\" | \"-\") TERM}. TERM: PART {(\"*\" | \"/\" | \"%\") PART}.");
        sum("1+2*3", 7);
        sum("[1+2]*3", 9);
        sum("20-5-3", 12);
        sum("20-[5-3]", 18);
        sum("100/7/2", 7);
        sum("17%5*2", 4);
        sum("2*3%4", 2);
        sum("20-6/2", 17);
        sum("20-7%4", 17);
        sum("2*3+4*5-6", 20);
        law("lasts +1", 6);
        law("lasts -1", 6);
        law("lasts 1+", 8);
        law("lasts 1*", 8);
        law("lasts *1", 6);
        law("lasts 1**1", 8);
        law("lasts 1/%1", 8);
        law("lasts 1+-1", 8);
        law("lasts [", 7);
        law("lasts [1+", 9);
        law("lasts [[1]", 10);
        law("lasts []", 7);
        law("lasts [1", 8);
        law("lasts [1]]", 9);
        law("lasts [1;bars", 8);
        law("lasts 1 and 1", 8);
        law("lasts 1<2", 7);
        law("lasts 1^2", 7);
        orders("read 0+ by 0", 8);
        orders("read 0 by *0", 10);
    }

    private static void numbers() {
        says("II, Promises 14, 15", "NUMBER (to 1,000)");
        law("lasts 0", GOOD);
        law("lasts 999", GOOD);
        law("lasts 1000", GOOD);
        law("lasts 1001", 6);
        law("lasts 1+1001", 8);
        law("lasts 0001000", GOOD);
        law("lasts 00001001", 6);
        for (String high : new String[] {"9999", "10000", "65536", "2147483647", "2147483648", "4294967296", "4294967297", "18446744073709551616",
            "18446744073709551617", many("9", "", 300)}) law("lasts " + high, 6);
        law("lasts " + many("0", "", 300), GOOD);
        orders("read 1000 by 0", GOOD);
        orders("read 1001 by 0", 5);
        orders("read 0 by 1001", 10);
        both("1000=1000", GOOD);
        both("1001=1", 0);
        both("1=1001", 2);
        sum("1000/20", 50);
        sum("1000-950", 50);
    }

    private static void fiftyParts() {
        says("II, Promises 14, 15", "50 PARTS that are NUMBERS and words (FAULT at the 51st)");
        law("lasts " + many("1", "+", 50), GOOD);
        law("lasts " + many("1", "+", 51), 106);
        law("lasts " + many("act", "+", 50), GOOD);
        law("lasts " + many("act", "+", 51), 206);
        law("lasts " + many("1", "+", 50) + "+day", 106);
        law("lasts " + many("1", "+", 50) + "+1001", 106);
        law("lasts " + many("1", "+", 50) + "+", 106);
        law("lasts " + many("1", "+", 25) + ";takes " + many("act", "+", 25), GOOD);
        law("lasts " + many("1", "+", 25) + ";takes " + many("act", "+", 25) + ";lasts 1", 168);
        law("bars if " + many("1=1", " or ", 25), GOOD);
        law("bars if " + many("1=1", " or ", 25) + " or 1=1", 183);
        law("lasts " + many("[1]", "+", 50), GOOD);
        law("lasts " + many("[1]", "+", 51), 207);
        orders("read 0 by 0 if " + many("1", "+", 47) + "=1", GOOD);
        orders("read 0 by 0 if " + many("1", "+", 48) + "=1", 111);
        orders("wait if " + many("1", "+", 50) + "+since0=1", 108);
        FadingActs x = Due.market();
        Due.force(x, "lasts " + many("1", "+", 50));
        be("asks(0, 0, 0), 50 ones", x.asks(0, 0, 0), 50);
        // All 50 wait for one another within each bracket: none is lost.
        Due.force(x, "lasts " + many("1+[", "", 8) + many("1", "+", 42) + many("]", "", 8));
        be("asks(0, 0, 0), 50 ones in brackets", x.asks(0, 0, 0), 50);
    }

    /** What one TEXT has does not count for the next, nor does what was read of one with a FAULT. */
    private static void fiftyOfEachText() {
        says("II, Promises 14, 15", "TEXTS are on a TAPE of at most 400 bytes.");
        FadingActs x = Due.market();
        String most = "read 0 by 0 if " + many("day", "+", 47) + "=";
        for (int i = 0; i < 12; i++) {
            be("orders() with 50 PARTS", Due.orders(x, most + "1000"), 0);
            be("orders() with 51 PARTS", Due.orders(x, most + "1000+1"), -6);
            be("orders() with 9 brackets", Due.orders(x, "wait if " + many("(", "", 9)), -6);
        }
        be("law() of 400 bytes", Due.law(x, "lasts 9" + many(" ", "", 389) + ";bars".substring(1)), -6);
        be("fault() of 400 bytes", x.fault(), 396);
        be("law() of 400 bytes", Due.law(x, "lasts 9" + many(" ", "", 388) + ";bars"), 0);
        x.force(0);
        be("asks(0, 0, 2)", x.asks(0, 0, 2), 1);
        be("asks(0, 0, 0)", x.asks(0, 0, 0), 9);
        be("orders()", Due.orders(x, "wait times 9"), 9);
        be("orders() with 50 PARTS, so", Due.orders(x, "wait if " + many("day", "+", 49) + "=441"), 1);
    }

    private static void notParts() {
        says("II, Promise 15", "A, R, TIMES aside, NUMBERS and words count as PARTS.");
        orders("wait times 20 if " + many("since7", "+", 49) + "=1", GOOD);
        orders("wait times 20 if " + many("voice3", "+", 49) + "=1", GOOD);
        orders("wait times 20 if " + many("since7", "+", 50) + "=1", 367);
        orders("wait times 20 if " + many("voice3", "+", 50) + "=1", 367);
        orders(many("wait times 9", ";", 9) + ";wait if " + many("day", "+", 49) + "=1", GOOD);
    }

    private static void eightBrackets() {
        says("II, Promises 14, 15", "8 brackets of both kinds within one another (FAULT at the 9th) at most.");
        law("lasts [[[[[[[[1]]]]]]]]", GOOD);
        law("lasts [[[[[[[[[1]]]]]]]]]", 14);
        both("((((((((1=1))))))))", GOOD);
        both("(((((((((1=1)))))))))", 8);
        both("(((([[[[1]]]]=1))))", GOOD);
        both("(((([[[[[1]]]]]=1))))", 8);
        both("((((((((1=[1]))))))))", 10);
        both("(((((((1=[1])))))))", GOOD);
        both(many("not(", "", 8) + "1=1" + many(")", "", 8), GOOD);
        both(many("not(", "", 9) + "1=1" + many(")", "", 9), 35);
        law("lasts [[[[[[[[1]]]]]]]]+[[[[[[[[1]]]]]]]]", GOOD);
        law("lasts " + many("[1]", "+", 12), GOOD);
        law("lasts [[[[[[[[1]]]]]]]]+[[[[[[[[[1]]]]]]]]]", 32);
        orders("read [[[[[[[[0]]]]]]]] by [[[[[[[[0]]]]]]]]", GOOD);
        orders("read 0 by [[[[[[[[[0]]]]]]]]]", 18);
        orders("read [[[[[[[[[0]]]]]]]]] by 0", 13);
        law("takes [[[[[[[[[0]]]]]]]]]", 14);
    }

    private static void faultAtTheEnd() {
        says("II, Promise 16", "FAULT: the first TOKEN that can't go on there (the end's: the TEXT's length)");
        law("lasts ", 6);
        law("lasts 1 if      ", 16);
        law("lasts" + many(" ", "", 395), 400);
        law("bars;", 5);
        law("bars;  ", 7);
        orders("read 0 by   ", 12);
        orders("wait times   ", 13);
        law("  bats", 2);
        law("bars  7", 6);
        law(many("0", "", 400), 0);
        law("lasts " + many("0", "", 393) + " ", GOOD);
        FadingActs x = Due.market();
        x.feed(0x62617273, 0x3b626172, 0x733b2020, 0x20202020, 0x62617273);
        x.end(8);
        be("law() of 'bars;bar'", x.law(), -6);
        be("fault(), end() cut it", x.fault(), 5);
    }

    private static void beyond() {
        says("II, Promises 14, 15", "Beyond 1,000,000,000 either way, or divided by 0");
        sum("1000*1000*1000/1000/1000/100", 10);
        sum("[1000*1000*1000+1]/1000/1000/100", 55);
        sum("1000*1000*1000+1-1", 55);
        sum("1000*1000*1000-1+1-1000*1000*1000+9", 9);
        sum("[0-1000]*1000*1000/1000/1000/100+20", 10);
        sum("[[0-1000]*1000*1000-1]/1000/1000/100+20", 55);
        sum("0-1000*1000*1000-1+1000*1000*1000", 55);
        sum("1000*1000*1000*1000", 55);
        sum("0*[1000*1000*1000*2]", 55);
        sum("1000*1000*1000*1-1000*1000*999-1000*999-990", 10);
        test("1000*1000*1000=1000*1000*1000", 1);
        test("1000*1000*1000+1>0", 0);
        test("not 1000*1000*1000+1>0", 0);
        test("0-1000*1000*1000<0", 1);
        test("0-1000*1000*1000-1<0", 0);
        test("0<1000*1000*1000+1", 0);
        test("[0-1000*1000]*1000=0-1000*1000*1000", 1);
        test("[0-1000*1000]*[1000+1]<0", 0);
    }

    private static void dividedByNothing() {
        says("II, Promises 14, 15", "divided by 0 (/ cut towards 0, % what is left then)");
        for (String sum : new String[] {"1/0", "1%0", "0/0", "0%0", "1/[1-1]", "0*[1/0]", "act/act", "9-9%[2-2]", "1/0+1"}) sum(sum, 55);
        sum("0/5", 0);
        sum("0%5", 0);
        for (String test : new String[] {"1/0=1", "1=1/0", "1%0=0", "not 1/0=1"}) test(test, 0);
        FadingActs x = Due.market();
        be("orders() of 'read 1/0 by 0'", Due.orders(x, "read 1/0 by 0"), -3);
        be("orders() of 'read 0 by 1%0'", Due.orders(x, "read 0 by 1%0"), -3);
    }

    private static void cutTowardsNothing() {
        says("II, Promises 14, 15", "(/ cut towards 0, % what is left then)");
        sum("7/2", 3);
        sum("7%2", 1);
        sum("1/2", 0);
        sum("6%3", 0);
        sum("[0-7]/2+10", 7);
        sum("[0-7]%2+10", 9);
        sum("7/[0-2]+10", 7);
        sum("7%[0-2]+10", 11);
        sum("[0-7]/[0-2]", 3);
        sum("[0-7]%[0-2]+10", 9);
        sum("[0-1]/2+10", 10);
    }

    private static void orAndAnd() {
        says("II, Promises 14, 15", "(\"or\", \"and\" ask what stands behind only if it can still matter)");
        test("1=1 or 1/0=1", 1);
        test("1=2 or 1/0=1", 0);
        test("1/0=1 or 1=1", 0);
        test("not(1=2 and 1/0=1)", 1);
        test("not(1=1 and 1/0=1)", 0);
        test("not(1/0=1 and 1=2)", 0);
        test("1=2 and 1/0=1 or 1=1", 1);
        test("1=1 or 1=2 or 1/0=1", 1);
        test("1=1 or 1/0=1 or 1/0=1", 1);
        test("1=2 or 1/0=1 or 1=1", 0);
        test("1=2 and 1=1 and 1/0=1 or 2=2", 1);
        test("1=2 or 1=1 and 1/0=1", 0);
        test("1=1 or 1=1 and 1/0=1", 1);
        test("1=1 and 1=1 and 1=1", 1);
        test("1=1 and 1=1 and 1=2", 0);
        test("1=2 or 1=2 or 1=1", 1);
        test("1=1 or 1=1 and 1=2", 1);
        test("(1=1 or 1=1) and 1=2", 0);
        test("not 1=1 or 1=1", 1);
        test("not 1=2 and 1=2", 0);
        test("(1=1 or 1/0=1) and (1=1 or 1/0=1)", 1);
        test("not(1=1 or 1/0=1) or 1=1", 1);
        test("not(not 1=1)", 1);
        test("not(not 1=2)", 0);
        test("not not 1=1 and not(not(not 1=2))", 1);
        test("not 1=1 or 1/0=1 or 1=1", 0);
        test("not 2<1", 1);
        test("not 1>2", 1);
        test("not 1=2 or 1/0=1", 1);
        test("2<1 and 1/0=1 or 1=1", 1);
        test("1>2 and 1/0=1 or 1=1", 1);
        test("1<2 or 1/0=1", 1);
        test("2>1 or 1/0=1", 1);
    }

    private static void sixLaws() {
        says("II, Promise 14", "LAWS, 6 at most");
        FadingActs x = Due.market();
        for (int i = 0; i < 6; i++) {
            be("law() " + i, Due.law(x, "lasts " + (i + 40)), i);
            be("law() with a FAULT", Due.law(x, "lasts"), i < 5 ? -6 : -5);
            be("count(4)", x.count(4), i + 1);
        }
        be("the seventh", Due.law(x, "lasts 50"), -5);
        for (int i = 0; i < 6; i++) {
            x.force(i);
            be("asks(0, 0, 0) by LAW " + i, x.asks(0, 0, 0), 40 + i);
        }
        be("force(6)", x.force(6), -2);
    }

    private static void lawIsEmptiedFirst() {
        says("Promise 14", "-5 (ahead of reading it; the TAPE is empty then, too)");
        FadingActs x = Due.market();
        for (int i = 0; i < 6; i++) Due.law(x, "bars");
        Due.orders(x, "wait if");
        be("law(), a FAULT", Due.law(x, "lasts"), -5);
        be("count(5)", x.count(5), 0);
        be("fault(), of the orders()", x.fault(), 7);
        be("law(), faultless", Due.law(x, "bars"), -5);
        be("fault(), of the orders()", x.fault(), 7);
        be("count(5)", x.count(5), 0);
        be("law(), an empty TAPE", x.law(), -5);
        be("count(9), count(10)", x.count(9) * 10 + x.count(10), 31);
    }

    private static void blanksAlone() {
        says("Promise 14", "-6 (blanks alone: FAULT at the end)");
        for (int n : new int[] {0, 1, 2, 20, 399, 400}) {
            String text = n == 0 ? "" : many(" ", "", n);
            law(text, n);
            orders(text, n);
        }
    }

    private static void noLawAtFirst() {
        says("II, Promises 18, 19", "one is in FORCE (NONE at first: no CLAUSE)");
        FadingActs x = Due.market();
        be("count(11)", x.count(11), -1);
        Due.law(x, "lasts 9; takes 8; bars");
        be("count(11), a law() alone", x.count(11), -1);
        be("asks(0, 0, 0)", x.asks(0, 0, 0), 5);
        be("asks(0, 0, 1)", x.asks(0, 0, 1), 10);
        be("asks(0, 0, 2)", x.asks(0, 0, 2), 0);
        x.force(0);
        be("count(11)", x.count(11), 0);
        be("asks(0, 0, 0)", x.asks(0, 0, 0), 9);
        x.force(-1);
        be("count(11)", x.count(11), -1);
        be("asks(0, 0, 0), none", x.asks(0, 0, 0), 5);
        be("asks(0, 0, 1), none", x.asks(0, 0, 1), 10);
        be("asks(0, 0, 2), none", x.asks(0, 0, 2), 0);
    }

    private static void wordsOfLaws() {
        says("II, Promises 14, 19", "Asked of an ACT (binds: how many CLASSES) by a READER (class: of that one) on a DAY.");
        FadingActs x = new FadingActs();
        for (int a = 0; a < 8; a++) x.act(a == 0 ? 60 : 1, a == 1 ? 30 : 1, a < 6 ? (1 << a + 1) - 1 : 32);
        for (int r = 0; r < 4; r++) x.reader(9, 5 - r);
        Due.force(x, "lasts act*10+reader; takes class*10+binds");
        for (int a = 0; a < 8; a++) {
            for (int r = 0; r < 4; r++) {
                be("asks(" + a + ", " + r + ", 0)", x.asks(a, r, 0), a * 10 + r);
                be("asks(" + a + ", " + r + ", 1)", x.asks(a, r, 1), (5 - r) * 10 + (a < 6 ? a + 1 : 1));
            }
        }
        Due.force(x, "lasts length+term; takes weekday*10+mood");
        be("asks(0, 0, 0)", x.asks(0, 0, 0), 61);
        be("asks(1, 0, 0)", x.asks(1, 0, 0), 31);
        be("asks(7, 0, 0)", x.asks(7, 0, 0), 2);
        for (int day : new int[] {0, 1, 6, 7, 13, 14, 994, 999}) {
            x.terms(0, day);
            x.terms(3, day % 10);
            be("asks(0, 0, 1) on DAY " + day, x.asks(0, 0, 1), day % 7 * 10 + day % 10);
        }
        for (String word : new String[] {"acts", "day", "held", "done", "last", "since 0", "voice 0", "if", "x"}) law("lasts " + word, 6);
    }

    private static void aClauseHolds() {
        says("II, Promises 14, 19", "A CLAUSE HOLDS, if its \"if\" (if it has one) is so, and neither that nor its SUM is BROKEN.");
        String[] laws = {"lasts 9; lasts 1/0", "lasts 9; lasts 3 if 1/0=1", "lasts 9; lasts 3 if 1=2", "lasts 3; lasts 9 if 1=1", "lasts 9; lasts 1/0 if 1=1",
            "lasts 9; lasts 3 if not 1/0=1", "lasts 9 if act=0; lasts 3 if act=1"};
        for (String law : laws) {
            FadingActs x = Due.market();
            Due.force(x, law);
            be("asks(0, 0, 0) by " + law, x.asks(0, 0, 0), 9);
        }
        for (String law : new String[] {"lasts 1/0", "lasts 3 if 1=2", "lasts 3 if 1/0=1", "takes 1/0", "takes 3 if 1=2", "bars if 1=2", "bars if 1/0=1"}) {
            FadingActs x = Due.market();
            Due.force(x, law);
            be("asks(0, 0, 0) by " + law, x.asks(0, 0, 0), 5);
            be("asks(0, 0, 1) by " + law, x.asks(0, 0, 1), 10);
            be("asks(0, 0, 2) by " + law, x.asks(0, 0, 2), 0);
        }
    }

    private static void lastsTheNearest() {
        says("II, Promises 19, 22", "A reading LASTS as many DAYS as the last \"lasts\" that HOLDS tells, 0 .. 99 (else the nearest), TERM without");
        nearest("lasts", 0, 5);
    }

    private static void takesTheNearest() {
        says("II, Promises 19, 20", "TAKES what \"takes\" tells, 0 .. 99, LENGTH without");
        nearest("takes", 1, 10);
    }

    private static void nearest(String kind, int what, int without) {
        FadingActs x = Due.market();
        x.image(0);
        String[] sums = {"0", "0-1", "0-1000*1000*1000", "1", "98", "99", "100", "1000*1000*1000", "7; S 8", "7; S 8; S 9 if 1=2", "7; S 8; S 1/0", "200; S 0-5"};
        int[] due = {0, 0, 0, 1, 98, 99, 99, 99, 8, 8, 8, 0};
        for (int i = 0; i < sums.length; i++) {
            x.back(0);
            String law = kind + " " + sums[i].replace("S", kind);
            Due.force(x, law);
            be("asks(0, 0, " + what + ") by " + law, x.asks(0, 0, what), due[i]);
            be("asks(0, 0, " + (1 - what) + ") by " + law, x.asks(0, 0, 1 - what), 15 - without);
        }
        x.back(0);
        be("asks(0, 0, " + what + ")", x.asks(0, 0, what), without);
    }

    private static void barred() {
        says("II, Promises 19, 20", "is BARRED, if \"bars\" HOLDS.");
        String[] laws = {"bars", "bars if 1=1", "bars; bars if 1=2", "bars if 1=2; bars", "lasts 3; bars; takes 4"};
        for (String law : laws) {
            FadingActs x = Due.market();
            Due.force(x, law);
            be("asks(0, 0, 2) by " + law, x.asks(0, 0, 2), 1);
            be("asks(0, 0, 3) by " + law, x.asks(0, 0, 3), 0);
            be("read(0, 0) by " + law, x.read(0, 0), -3);
        }
        FadingActs x = Due.market();
        Due.force(x, "bars if act = 1 and reader = 0 and weekday = 3");
        x.terms(0, 3);
        for (int a = 0; a < 3; a++) for (int r = 0; r < 2; r++) be("asks(" + a + ", " + r + ", 2)", x.asks(a, r, 2), a == 1 && r == 0 ? 1 : 0);
        x.terms(0, 4);
        be("asks(1, 0, 2) a DAY later", x.asks(1, 0, 2), 0);
    }

    private static void forceIsRefused() {
        says("Promise 18", "A LAW is in FORCE (NONE: none): which was. -2.");
        FadingActs x = Due.market();
        for (int law : new int[] {0, 1, 5, 6, MAX, -2, -3, MIN}) be("force(" + law + ") ahead of any", x.force(law), -2);
        be("force(NONE)", x.force(-1), -1);
        be("status()", x.status(), 0);
        Due.law(x, "bars");
        Due.law(x, "bars");
        be("force(1)", x.force(1), -1);
        be("force(0)", x.force(0), 1);
        for (int law : outsideButNone(0, 1)) be("force(" + law + ")", x.force(law), -2);
        be("force(0), it is", x.force(0), 0);
        be("force(NONE)", x.force(-1), 0);
        be("force(NONE), none was", x.force(-1), -1);
    }

    private static void times() {
        says("II, Promise 15", "TIMES: a NUMBER 1 .. 20.");
        for (String good : new String[] {"1", "2", "20", "020", "0001"}) orders("wait times " + good, GOOD);
        for (String bad : new String[] {"0", "00", "21", "22", "1000", "2147483649", "4294967297", "99999999999999999999", "-1", "[1]", "day", "if"}) {
            orders("wait times " + bad, 11);
        }
        orders("wait times 1+1", 12);
        FadingActs x = Due.market();
        be("wait", Due.orders(x, "wait"), 1);
        be("wait times 1", Due.orders(x, "wait times 1"), 1);
        be("wait times 20", Due.orders(x, "wait times 20"), 20);
        be("count(12)", x.count(12), 22);
    }

    private static void sinceAndVoice() {
        says("II, Promise 15", "(A: a NUMBER 0 .. 7, R: 0 .. 3)");
        for (int n = 0; n < 8; n++) orders("wait if since " + n + " = 1", GOOD);
        for (int n = 0; n < 4; n++) orders("wait if voice " + n + " = 1", GOOD);
        orders("wait if since 007 = 1", GOOD);
        for (String bad : new String[] {"8", "9", "1000", "4294967296", "[0]", "day", "-1", "= 1", ""}) orders("wait if since " + bad, 14);
        for (String bad : new String[] {"4", "5", "7", "8", "4294967296", "[0]", "day", "-1", "= 1", ""}) orders("wait if voice " + bad, 14);
        orders("wait if since", 13);
        orders("wait if voice", 13);
        orders("wait if since 0 1 = 1", 16);
    }

    private static void askedEachTime() {
        says("II, Promise 15", "each time its \"if\" is asked (not run, if it is not so or BROKEN)");
        be("not so", Due.orders(Due.market(), "wait if 1=2"), 0);
        be("BROKEN", Due.orders(Due.market(), "wait if 1/0=1; read 9 by 9 if 1/0=1"), 0);
        be("day", Due.orders(Due.market(), "wait times 20 if day < 5"), 5);
        be("done", Due.orders(Due.market(), "wait times 20 if done < 7"), 7);
        be("BROKEN on DAY 3", Due.orders(Due.market(), "wait times 20 if 10 / [3-day] > 0"), 3);
        be("so again", Due.orders(Due.market(), "wait times 4 if day = 0; wait times 3 if day = 1; wait if day = 2"), 3);
        FadingActs x = Due.market();
        x.read(0, 0);
        be("held", Due.orders(x, "wait times 20 if held > 0"), 5);
        be("a SUM is not asked then", Due.orders(x, "read 1/0 by 0 if 1=2"), 0);
        be("status()", x.status(), 0);
    }

    /** Whether a test is so for the orders of an object, which waits a DAY then. */
    private static void so(FadingActs x, String test) { be("orders() of 'wait if " + test + "'", Due.orders(x, "wait if " + test), 1); }

    private static void wordsOfOrders() {
        says("II, Promise 15", "since: DAYS since an ACT's latest reading (-1: none, no such ACT), voice: what a READER has left this DAY (-1: no such).");
        FadingActs x = Due.market();
        so(x, "since 0 = 0-1 and since 2 = 0-1 and since 3 = 0-1 and since 7 = 0-1");
        so(x, "voice 0 = 50 and voice 1 = 25 and voice 2 = 0-1 and voice 3 = 0-1");
        so(x, "day = 2 and held = 0 and done = 0 and last = 0-1");
        x.read(0, 0);
        so(x, "since 0 = 0 and since 1 = 0-1 and voice 0 = 40 and voice 1 = 25 and held = 1 and last = 0-1 and done = 0");
        so(x, "since 0 = 1 and voice 0 = 50 and held = 1");
        be("last", Due.orders(x, "read 2 by 0; wait if last = 2 and done = 1 and since 2 = 0 and held = 2; read 1 by 1 if last = 2 and done = 2"), 3);
        so(x, "last = 0-1 and done = 0");
        x.terms(0, 999);
        be("day 999", Due.orders(x, "read 0 by 0 if day = 999 and since 0 = 996"), 1);
        FadingActs y = Due.market();
        Due.force(y, "takes 50");
        be("voice 0, all of it", Due.orders(y, "read 0 by 0; wait if voice 0 = 0"), 2);
    }

    private static void sumsFromTheLeft() {
        says("II, Promise 15", "One that can't be (a BROKEN SUM, as read(), await() are REFUSED) ends it");
        FadingActs x = Due.market();
        x.gainsay(0, 1, 1);
        x.listen(1, 0);
        x.put(2, 3, 1);
        for (String read : new String[] {"3 by 0", "0-1 by 0", "0 by 2", "0 by 0-1", "1000*1000*1000 by 0", "0 by 0-1000*1000*1000", "8 by 4", "1/0 by 0",
            "0 by 1/0", "1/0 by 1/0", "1000*1000*[1000+1] by 0", "2 by 0", "2 by 1"}) {
            be("orders() of 'read " + read + "'", Due.orders(x, "read " + read), -3);
            be("stopped()", x.stopped(), 0);
        }
        be("twice a DAY", Due.orders(x, "read 0 by 0 times 2"), -3);
        be("GAINSAID", Due.orders(x, "read 0 by 0; read 1 by 1"), -3);
        be("nobody LISTENS", Due.orders(x, "wait; read 0 by 0"), -3);
        x.terms(0, 999);
        be("DAY 999", Due.orders(x, "wait"), -3);
        be("DAY 999, the second", Due.orders(x, "read 0 by 0; wait"), -3);
        be("stopped()", x.stopped(), 1);
    }

    private static void whollyOrNot() {
        says("II, Promise 15", "all is as it was ahead of it.");
        String[] ends = {"read 9 by 0", "read 0 by 9", "read 1/0 by 0", "read 1 by 0 times 2", "wait times 20; wait times 20"};
        for (String end : ends) {
            FadingActs x = Due.market();
            x.terms(0, 970);
            x.read(2, 0);
            FadingActs twin = Due.market();
            twin.terms(0, 970);
            twin.read(2, 0);
            be("orders()", Due.orders(x, "read 0 by 1; wait; read 0 by 0; " + end), -3);
            be("stopped()", x.stopped(), end.startsWith("wait") ? 4 : 3);
            // The twin stops there, too, ahead of having run any.
            be("the twin's", Due.orders(twin, many("wait if 1=2", ";", x.stopped()) + ";read 9 by 9"), -3);
            be("after '" + end + "'", seen(x), seen(twin));
            be("read(0, 1)", x.read(0, 1), 15);
        }
    }

    private static void ordersNoRoom() {
        says("Promise 15", "-5 one has no room");
        FadingActs x = full(1, 1, 1);
        x.undo();
        be("up to 24", Due.orders(x, "read 0 by 0"), 1);
        x.undo();
        be("beyond 24", Due.orders(x, "read 0 by 0; wait; read 0 by 0"), -5);
        be("stopped()", x.stopped(), 2);
        be("count(2)", x.count(2), 23);
        be("count(12)", x.count(12), 24);
        x.read(0, 0);
        be("none at all", Due.orders(x, "wait; read 0 by 0"), -5);
        be("stopped()", x.stopped(), 1);
        be("-3 ahead of -5", Due.orders(x, "read 0 by 0"), -3);
        be("no such READER", Due.orders(x, "wait; read 0 by 1"), -3);
        be("not run", Due.orders(x, "wait; read 0 by 0 if 1=2"), 1);
        be("count(9)", x.count(9), 2);
    }

    private static void ordersFault() {
        says("Promise 15", "-6 (as for law())");
        FadingActs x = Due.market();
        be("orders(), an empty TAPE", x.orders(), -6);
        be("fault()", x.fault(), 0);
        be("orders() of blanks", Due.orders(x, "   "), -6);
        be("fault()", x.fault(), 3);
        be("orders() with a FAULT at its end", Due.orders(x, "wait; read 0 by 0; wait wait"), -6);
        be("fault()", x.fault(), 24);
        be("count(12), none was run", x.count(12), 0);
        be("count(2), none was run", x.count(2), 0);
        be("count(5)", x.count(5), 0);
        be("orders(), empty then", x.orders(), -6);
        be("count(10)", x.count(10), 4);
    }

    private static void howManyWereRun() {
        says("Promise 15", "ORDERS, the TAPE is empty then: how many were run.");
        FadingActs x = Due.market();
        String most = many("wait times 20", ";", 12);
        be("12 times 20", Due.orders(x, most), 240);
        be("count(5)", x.count(5), 0);
        be("count(12)", x.count(12), 240);
        x.terms(0, 760);
        be("beyond DAY 999", Due.orders(x, most), -3);
        be("stopped()", x.stopped(), 11);
        be("count(5)", x.count(5), 0);
        be("count(12)", x.count(12), 760);
        x.terms(0, 759);
        be("up to DAY 999", Due.orders(x, most), 240);
        be("count(12)", x.count(12), 999);
        be("none", Due.orders(x, "wait if 1=2"), 0);
        be("readings and waits", Due.orders(Due.market(), "read 0 by 0; wait times 2; read 0 by 0; read 1 by 1 if 1=2"), 4);
    }

    private static void faultOfTheLatest() {
        says("Promise 16", "FAULT of the latest law(), orders() that read a TEXT: its place; NONE without.");
        FadingActs x = Due.market();
        be("fault(), ahead of any", x.fault(), -1);
        Due.law(x, "lasts");
        be("fault() of a law()", x.fault(), 5);
        Due.orders(x, "wait");
        be("fault() of orders() without", x.fault(), -1);
        Due.orders(x, "wait if");
        be("fault() of orders()", x.fault(), 7);
        x.row();
        x.feed(1, 2, 3, 4, 5);
        x.end(0);
        x.read(9, 9);
        be("fault(), nothing was read since", x.fault(), 7);
        Due.law(x, "bars");
        be("fault() of a law() without", x.fault(), -1);
        Due.law(x, "7");
        be("fault() at 0", x.fault(), 0);
        Due.orders(x, "read 9 by 9");
        be("fault() of orders() that can't be", x.fault(), -1);
    }

    private static void stoppedWhere() {
        says("Promise 17", "Which CLAUSE of the latest orders() could not be. NONE.");
        FadingActs x = Due.market();
        be("stopped(), ahead of any", x.stopped(), -1);
        for (int i = 0; i < 12; i++) {
            Due.orders(x, (i == 0 ? "" : many("wait", ";", i) + ";") + "read 9 by 9" + (i == 11 ? "" : ";wait"));
            be("stopped() at " + i, x.stopped(), i);
        }
        Due.law(x, "bars");
        Due.law(x, "bar");
        x.read(9, 9);
        be("stopped(), no orders() since", x.stopped(), 11);
        Due.orders(x, "wait");
        be("stopped(), all were run", x.stopped(), -1);
        Due.orders(x, "wait times 2; read 0 by 0 times 2");
        be("stopped(), the second time", x.stopped(), 1);
        Due.orders(x, "wait if 1=2");
        be("stopped(), none was run", x.stopped(), -1);
        Due.orders(x, "read 9 by 9");
        Due.orders(x, "read 9 by");
        be("stopped(), a FAULT", x.stopped(), -1);
        Due.orders(x, "read 9 by 9");
        x.orders();
        be("stopped(), an empty TAPE", x.stopped(), -1);
    }
}
