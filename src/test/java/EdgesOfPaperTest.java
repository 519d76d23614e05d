/** The sentences on what is on paper, in III and IV and of promises 26 to 31, 36, 37, that name an edge. */
public final class EdgesOfPaperTest extends Edges {
    public static void main(String[] args) {
        paperChangesNothing();
        theLogHasRoom();
        daysBehindTheLast();
        morningsAnswerNone();
        morningsWhoIsThere();
        morningsCannotBe();
        theDayBehindThem();
        theFewestReadings();
        theFirstRow();
        noneLast();
        morningsAsCanBe();
        morningsNeeds();
        morningsCutShort();
        gameAnswersNothing();
        gameByTurns();
        gameOnTheDayBehind();
        gameNeeds();
        gameCounts();
        gameLowestAct();
        gameOpensWithNone();
        deadAsBits();
        deadDoNotHold();
        deadByNoReader();
        deadByWhatTheyNeed();
        throatsAnswerNone();
        throatsAllOfTheVoices();
        throatsFewest();
        throatsAside();
        daysAnswerNone();
        daysFewest();
        daysFirstRow();
        likelyAnswersNone();
        likelyHoldsAllDays();
        likelyReadingAheadOfThisDay();
        likelyIsRead();
        likelyRains();
        likelyMoreThanDry();
        likelyEachPartIsCut();
        yearsAreRefused();
        yearsDraw();
        yearsRain();
        yearsEndBehindTheLastDay();
        yearsAsCanBe();
        drawnAnswersNone();
        drawnHeldDays();
        close();
    }

    private static void paperChangesNothing() {
        says("III, Promises 26 to 37", "(What follows is on paper, RAIN aside, the LOG has room, DAYS go on behind 999.)");
        FadingActs x = rich();
        FadingActs twin = rich();
        x.mornings(7, 0, 0, 5, -1);
        x.mornings(2, 1, 1, 4, 2);
        x.game(3, 4, 0, 1, 4, 0);
        x.game(4, 3, 1, 0, 3, 1);
        x.dead();
        x.throats(5, 1);
        x.days(7, -1);
        x.likely(0, 0, 60);
        x.likely(2, 1, 3);
        x.judge();
        x.unwritten(3);
        be("all that can be seen", seen(x), seen(twin));
        x = rich();
        twin = rich();
        x.years(5, 60);
        be("years(17, 40) behind others", x.years(17, 40), twin.years(17, 40));
        be("all that can be seen, years() of the same SEED", seen(x), seen(twin));
        FadingActs y = Due.market();
        y.terms(1, 10);
        y.terms(2, 1);
        be("mornings(4, 0, 0, 1, -1), RAIN aside", y.put(2, 1, 9) + y.mornings(4, 0, 0, 1, -1), 3);
        be("game(4, 0, 0, 1, 1, 0), RAIN aside", y.game(4, 0, 0, 1, 1, 0), 1);
    }

    private static void theLogHasRoom() {
        says("III, Promises 26 to 36", "the LOG has room");
        FadingActs x = full(1, 2, 2);
        be("count(2)", x.count(2), 24);
        x.await();
        x.await();
        be("mornings(1, 0, 0, 1, -1)", x.mornings(1, 0, 0, 1, -1), 1);
        be("game(1, 0, 0, 1, 1, 0)", x.game(1, 0, 0, 1, 1, 0), 1);
        be("years(5, 60)", x.years(5, 60), 60);
        be("drawn(0, 0)", x.drawn(0, 0), 60);
        be("likely(0, 0, 60)", x.likely(0, 0, 60), ALL);
        be("dead()", x.dead(), 0);
        x.fine(26, 0, 0, 1);
        be("unwritten(-1)", x.unwritten(-1), 4);
        be("read(0, 0), this is not on paper", x.read(0, 0), -5);
    }

    private static void daysBehindTheLast() {
        says("III, Promises 26, 27, 31", "DAYS go on behind 999");
        FadingActs x = plain(3, 9, 2);
        x.terms(0, 999);
        be("mornings(7, 0, 0, 5, -1)", x.mornings(7, 0, 0, 5, -1), 3);
        be("mornings(7, 0, 0, 5, 2)", x.mornings(7, 0, 0, 5, 2), 2);
        be("game(7, 0, 0, 1, 3, 0), the other reads none", x.game(7, 0, 0, 1, 3, 0), 2);
        be("likely(0, 0, 60)", x.likely(0, 0, 60), ALL);
        // DAY 999 is of weekday 5, DAY 1000 of weekday 6: there alone it can be read.
        for (int w = 0; w < 6; w++) x.listen(w, 0);
        be("mornings(1, 0, 0, 1, -1)", x.mornings(1, 0, 0, 1, -1), -1);
        be("mornings(1, 0, 0, 2, 0)", x.mornings(1, 0, 0, 2, 0), 100);
        be("mornings(1, 0, 0, 2, 1)", x.mornings(1, 0, 0, 2, 1), 0);
        be("game(1, 0, 1, 0, 1, 0)", x.game(1, 0, 1, 0, 1, 0), 0);
    }

    private static void morningsAnswerNone() {
        says("Promise 26", "MORNINGS, n 1 .. 5, for mine and theirs (bits): how many readings (i NONE), the ACT of MORNING i (100: none).");
        FadingActs x = plain(1, 9, 1);
        for (int n : outside(1, 5)) {
            be("mornings(1, 0, 0, " + n + ", -1)", x.mornings(1, 0, 0, n, -1), -1);
            be("mornings(0, 0, 0, " + n + ", -1)", x.mornings(0, 0, 0, n, -1), -1);
            be("mornings(0, 0, 0, " + n + ", 0)", x.mornings(0, 0, 0, n, 0), -1);
        }
        for (int n = 1; n <= 5; n++) {
            be("mornings(1, 0, 0, " + n + ", -1)", x.mornings(1, 0, 0, n, -1), 1);
            be("mornings(1, 0, 0, " + n + ", 0)", x.mornings(1, 0, 0, n, 0), 0);
            be("mornings(1, 0, 0, " + n + ", n - 1)", x.mornings(1, 0, 0, n, n - 1), n == 1 ? 0 : 100);
            for (int i : outsideButNone(0, n - 1)) be("mornings(1, 0, 0, " + n + ", " + i + ")", x.mornings(1, 0, 0, n, i), -1);
        }
        be("count(6)", x.count(6), 0);
    }

    private static void morningsWhoIsThere() {
        says("Promise 26", "NONE (it can't be; such ACTS are not there).");
        FadingActs x = plain(2, 9, 2);
        for (int bits : outside(0, 3)) {
            be("mornings(" + bits + ", 0, 0, 1, -1)", x.mornings(bits, 0, 0, 1, -1), -1);
            be("mornings(0, " + bits + ", 0, 1, -1)", x.mornings(0, bits, 0, 1, -1), -1);
        }
        for (int reader : outside(0, 1)) be("mornings(0, 0, " + reader + ", 1, -1)", x.mornings(0, 0, reader, 1, -1), -1);
        be("mornings(3, 0, 1, 2, -1)", x.mornings(3, 0, 1, 2, -1), 2);
        be("mornings(0, 3, 1, 2, -1)", x.mornings(0, 3, 1, 2, -1), 0);
        FadingActs y = plain(8, 30, 1);
        be("mornings(128, 127, 0, 1, 0)", y.mornings(128, 127, 0, 1, 0), 7);
        be("mornings(256, 0, 0, 1, 0)", y.mornings(256, 0, 0, 1, 0), -1);
        be("mornings(0, 255, 0, 5, -1)", y.mornings(0, 255, 0, 5, -1), 0);
        be("mornings(0, 0, 0, 1, -1), no READER", plain(1, 1, 0).mornings(0, 0, 0, 1, -1), -1);
        be("mornings(0, 0, 0, 1, -1), no ACT", plain(0, 1, 1).mornings(0, 0, 0, 1, -1), 0);
    }

    private static void morningsCannotBe() {
        says("III, Promise 26", "by which on the DAY behind them all of mine HOLD and none of theirs");
        FadingActs x = plain(6, 30, 1);
        be("mornings(1, 1, 0, 5, -1), both", x.mornings(1, 1, 0, 5, -1), -1);
        be("mornings(3, 6, 0, 5, 0), both", x.mornings(3, 6, 0, 5, 0), -1);
        be("mornings(63, 0, 0, 5, -1), six in five", x.mornings(63, 0, 0, 5, -1), -1);
        be("mornings(63, 0, 0, 5, 0), six in five", x.mornings(63, 0, 0, 5, 0), -1);
        be("mornings(31, 0, 0, 5, -1), five", x.mornings(31, 0, 0, 5, -1), 5);
        x.read(5, 0);
        be("mornings(63, 0, 0, 5, -1), one HOLDS", x.mornings(63, 0, 0, 5, -1), 5);
        be("mornings(0, 32, 0, 5, -1), it HOLDS on", x.mornings(0, 32, 0, 5, -1), -1);
        be("mornings(0, 0, 0, 5, -1), neither mine nor theirs", x.mornings(0, 0, 0, 5, -1), 0);
        be("mornings(0, 0, 0, 5, 4)", x.mornings(0, 0, 0, 5, 4), 100);
    }

    private static void theDayBehindThem() {
        says("III, Promise 26", "MORNINGS: this DAY and n less 1 more");
        for (int n = 1; n <= 5; n++) {
            FadingActs x = plain(1, 1, 1);
            be("mornings(1, 0, 0, " + n + ", -1), TERM 1", x.mornings(1, 0, 0, n, -1), -1);
            x.put(0, 1, 2);
            be("mornings(1, 0, 0, " + n + ", n - 1), TERM 2", x.mornings(1, 0, 0, n, n - 1), 0);
            x.put(0, 1, n);
            be("mornings(1, 0, 0, " + n + ", 0), TERM n", x.mornings(1, 0, 0, n, 0), n == 1 ? -1 : 100);
            x.put(0, 1, n + 1);
            be("mornings(1, 0, 0, " + n + ", 0), TERM n + 1", x.mornings(1, 0, 0, n, 0), 0);
            x.read(0, 0);
            be("mornings(1, 0, 0, " + n + ", -1), read this DAY", x.mornings(1, 0, 0, n, -1), 0);
            be("mornings(0, 1, 0, " + n + ", -1), read this DAY", x.mornings(0, 1, 0, n, -1), -1);
            x.put(0, 1, n);
            be("mornings(0, 1, 0, " + n + ", -1), its last DAY is ahead", x.mornings(0, 1, 0, n, -1), 0);
        }
    }

    private static void theFewestReadings() {
        says("III, Promise 26", "the fewest readings; the first as a row of ACTS (none last)");
        FadingActs x = plain(4, 3, 1);
        be("mornings(15, 0, 0, 4, -1), TERM 3", x.mornings(15, 0, 0, 4, -1), -1);
        be("mornings(3, 0, 0, 4, -1)", x.mornings(3, 0, 0, 4, -1), 2);
        be("mornings(3, 0, 0, 4, .)", row(x, 3, 0, 4), "100 100 0 1");
        be("mornings(3, 0, 0, 3, .)", row(x, 3, 0, 3), "100 0 1");
        be("mornings(3, 0, 0, 2, .)", row(x, 3, 0, 2), "0 1");
        x.put(3, 3, 0);
        be("mornings(8, 0, 0, 2, -1), with what it NEEDS", x.mornings(8, 0, 0, 2, -1), 2);
        be("mornings(8, 0, 0, 2, .)", row(x, 8, 0, 2), "0 3");
        x.read(0, 0);
        be("mornings(8, 0, 0, 2, -1), that HOLDS", x.mornings(8, 0, 0, 2, -1), 1);
        be("mornings(8, 0, 0, 2, .), that HOLDS", row(x, 8, 0, 2), "3 100");
        be("mornings(9, 0, 0, 3, .), read anew", row(x, 9, 0, 3), "100 0 3");
    }

    private static String row(FadingActs x, int mine, int theirs, int n) {
        StringBuilder b = new StringBuilder();
        for (int i = 0; i < n; i++) b.append(i == 0 ? "" : " ").append(x.mornings(mine, theirs, 0, n, i));
        return b.toString();
    }

    private static void theFirstRow() {
        says("III, Promise 26", "the first as a row of ACTS (none last)");
        FadingActs x = plain(3, 30, 1);
        be("mornings(7, 0, 0, 3, .)", row(x, 7, 0, 3), "0 1 2");
        be("mornings(6, 0, 0, 3, .)", row(x, 6, 0, 3), "1 2 100");
        be("mornings(5, 0, 0, 5, .)", row(x, 5, 0, 5), "0 2 100 100 100");
        x.put(0, 1, 2);
        be("mornings(7, 0, 0, 3, .), 0 is short", row(x, 7, 0, 3), "1 2 0");
        be("mornings(3, 0, 0, 3, .), 0 is short", row(x, 3, 0, 3), "1 100 0");
        x.put(1, 1, 3);
        be("mornings(7, 0, 0, 3, .), 1 is shorter than 2", row(x, 7, 0, 3), "2 1 0");
        x.put(0, 3, 1);
        be("mornings(1, 0, 0, 3, .), 0 NEEDS 1", row(x, 1, 0, 3), "1 100 0");
        be("mornings(1, 0, 0, 2, .), 0 NEEDS 1", row(x, 1, 0, 2), "1 0");
    }

    private static void noneLast() {
        says("Promise 26", "(100: none)");
        FadingActs x = plain(8, 30, 1);
        be("mornings(128, 0, 0, 2, .)", row(x, 128, 0, 2), "7 100");
        be("mornings(0, 0, 0, 5, .)", row(x, 0, 0, 5), "100 100 100 100 100");
        x.listen(0, 62);
        be("mornings(128, 0, 0, 2, .), none LISTENS at first", row(x, 128, 0, 2), "100 7");
    }

    private static void morningsAsCanBe() {
        says("III, Promise 26", "on each a told READER reads one ACT or none, as CAN be");
        FadingActs x = plain(3, 30, 1);
        x.reader(1, 0);
        x.gainsay(1, 2, 1);
        x.read(1, 0);
        be("mornings(4, 0, 0, 2, .), GAINSAID this DAY", row(x, 4, 0, 2), "100 2");
        be("mornings(4, 0, 0, 1, -1), GAINSAID this DAY", x.mornings(4, 0, 0, 1, -1), -1);
        be("mornings(1, 0, 1, 1, -1), all of the VOICE", x.mornings(1, 0, 1, 1, -1), 1);
        x.put(0, 0, 2);
        be("mornings(1, 0, 1, 5, -1), the VOICE is less", x.mornings(1, 0, 1, 5, -1), -1);
        x.put(0, 0, 1);
        x.read(0, 1);
        Due.force(x, "lasts 1 if act = 0 and weekday = 0");
        be("mornings(1, 0, 1, 1, -1), read this DAY", x.mornings(1, 0, 1, 1, -1), -1);
        be("mornings(1, 0, 1, 2, -1), the next", x.mornings(1, 0, 1, 2, -1), 1);
        x.undo();
        x.put(2, 0, 1);
        x.gainsay(1, 2, 0);
        Due.force(x, "takes 0 if act = 0; takes 99 if act = 1");
        be("mornings(4, 0, 0, 1, -1), nothing is left of the VOICE", x.mornings(4, 0, 0, 1, -1), -1);
        be("mornings(1, 0, 0, 1, -1), it TAKES 0", x.mornings(1, 0, 0, 1, -1), 1);
        be("mornings(4, 0, 0, 2, -1), the next DAY", x.mornings(4, 0, 0, 2, -1), 1);
        Due.force(x, "bars if weekday < 4");
        be("mornings(1, 0, 0, 4, -1), BARRED", x.mornings(1, 0, 0, 4, -1), -1);
        be("mornings(1, 0, 0, 5, 4), not BARRED", x.mornings(1, 0, 0, 5, 4), 0);
    }

    private static void morningsNeeds() {
        says("III, Promise 26", "as CAN be: by which on the DAY behind them");
        FadingActs x = plain(5, 30, 1);
        for (int a = 0; a < 4; a++) x.put(a, 3, a + 1);
        be("mornings(1, 0, 0, 5, .), a chain", row(x, 1, 0, 5), "4 3 2 1 0");
        be("mornings(1, 0, 0, 4, -1), too short for it", x.mornings(1, 0, 0, 4, -1), -1);
        x.put(4, 3, 0);
        be("mornings(1, 0, 0, 5, -1), a ring", x.mornings(1, 0, 0, 5, -1), -1);
        x.put(4, 3, -1);
        x.put(2, 1, 1);
        be("mornings(1, 0, 0, 5, -1), one does not HOLD on the next", x.mornings(1, 0, 0, 5, -1), -1);
        x.put(2, 1, 2);
        be("mornings(1, 0, 0, 5, -1), just on the next", x.mornings(1, 0, 0, 5, -1), 5);
        be("mornings(1, 4, 0, 5, -1), and no more behind", x.mornings(1, 4, 0, 5, -1), 5);
        be("mornings(1, 16, 0, 5, -1), this one does", x.mornings(1, 16, 0, 5, -1), -1);
        x.put(4, 1, 5);
        be("mornings(1, 16, 0, 5, -1), its last DAY is ahead", x.mornings(1, 16, 0, 5, -1), 5);
        x.put(4, 1, 6);
        be("mornings(1, 16, 0, 5, -1), a DAY more", x.mornings(1, 16, 0, 5, -1), -1);
    }

    private static void morningsCutShort() {
        says("III, Promise 26", "and none of theirs: the fewest readings");
        FadingActs x = plain(2, 30, 1);
        x.read(0, 0);
        x.await();
        be("mornings(0, 1, 0, 3, -1), it HOLDS on", x.mornings(0, 1, 0, 3, -1), -1);
        Due.force(x, "lasts 1 if weekday = 2; lasts 0 if weekday = 3");
        be("mornings(0, 1, 0, 3, .), a shorter reading", row(x, 0, 1, 3), "100 0 100");
        be("mornings(2, 1, 0, 3, .), and mine", row(x, 2, 1, 3), "1 0 100");
        x.terms(0, 2);
        be("mornings(0, 1, 0, 1, .), LASTS 1", row(x, 0, 1, 1), "0");
        x.terms(0, 1);
        Due.force(x, "lasts 1 if weekday = 2; lasts 30 if weekday = 1");
        be("mornings(2, 1, 0, 2, .), mine ahead of it", row(x, 2, 1, 2), "1 0");
        x.put(1, 3, 0);
        be("mornings(2, 1, 0, 2, .), which NEEDS theirs", row(x, 2, 1, 2), "1 0");
    }

    private static void gameAnswersNothing() {
        says("Promise 27", "NOTHING (the same READER; such ACTS are not there).");
        FadingActs x = plain(2, 9, 2);
        for (int bits : outside(0, 3)) {
            be("game(" + bits + ", 0, 0, 1, 1, 0)", x.game(bits, 0, 0, 1, 1, 0), -1000);
            be("game(0, " + bits + ", 0, 1, 1, 0)", x.game(0, bits, 0, 1, 1, 0), -1000);
        }
        for (int reader : outside(0, 1)) {
            be("game(0, 0, " + reader + ", 1, 1, 0)", x.game(0, 0, reader, 1, 1, 0), -1000);
            be("game(0, 0, 0, " + reader + ", 1, 0)", x.game(0, 0, 0, reader, 1, 0), -1000);
        }
        for (int reader : new int[] {0, 1, 2, -1}) be("game(0, 0, r, r, 1, 0)", x.game(0, 0, reader, reader, 1, 0), -1000);
        for (int n : outside(1, 4)) {
            be("game(1, 0, 0, 1, " + n + ", 0)", x.game(1, 0, 0, 1, n, 0), -1000);
            be("game(0, 0, 0, 1, " + n + ", 1)", x.game(0, 0, 0, 1, n, 1), -1000);
        }
        for (int what : outside(0, 1)) be("game(1, 0, 0, 1, 1, " + what + ")", x.game(1, 0, 0, 1, 1, what), -1000);
        for (int n = 1; n <= 4; n++) be("game(1, 0, 0, 1, " + n + ", 0)", x.game(1, 0, 0, 1, n, 0), 1);
        be("game(3, 3, 1, 0, 1, 0)", x.game(3, 3, 1, 0, 1, 0), 0);
        be("count(6)", x.count(6), 0);
    }

    private static void gameByTurns() {
        says("III, Promise 27", "A GAME of n MORNINGS: two READERS by turns read one ACT or none");
        FadingActs x = new FadingActs();
        for (int a = 0; a < 4; a++) x.act(1, 30, 1 << a);
        x.reader(9, 0);
        x.reader(9, 0);
        // READER 0 can read ACT 0 and 1 alone, READER 1 ACT 2 and 3 alone.
        Due.force(x, "bars if reader = 0 and act > 1; bars if reader = 1 and act < 2");
        int[] due = {1, 0, 1, 0};
        for (int n = 1; n <= 4; n++) {
            be("game(3, 12, 0, 1, " + n + ", 0)", x.game(3, 12, 0, 1, n, 0), due[n - 1]);
            be("game(3, 12, 0, 1, " + n + ", 1)", x.game(3, 12, 0, 1, n, 1), 0);
            be("game(3, 12, 1, 0, " + n + ", 0), each would harm the own side", x.game(3, 12, 1, 0, n, 0), 0);
            be("game(3, 12, 1, 0, " + n + ", 1)", x.game(3, 12, 1, 0, n, 1), 100);
            be("game(12, 3, 0, 1, " + n + ", 0)", x.game(12, 3, 0, 1, n, 0), 0);
        }
    }

    private static void gameOnTheDayBehind() {
        says("III, Promise 27", "to HOLD on the DAY behind them as can be");
        for (int n = 1; n <= 4; n++) {
            // Each MORNING but one is BARRED: a reading on it LASTS to the DAY behind them, or a DAY less.
            for (int morning = 0; morning < n; morning++) {
                boolean isMine = morning % 2 == 0;
                FadingActs x = plain(1, 9, 2);
                x.terms(0, 7);
                Due.force(x, "bars if not weekday = " + morning);
                int mine = isMine ? 1 : 0;
                x.put(0, 1, n - morning + 1);
                String told = ", n " + n + ", MORNING " + morning;
                be("game(), TERM just enough" + told, x.game(mine, 1 - mine, 0, 1, n, 0), isMine ? 1 : -1);
                x.put(0, 1, n - morning);
                be("game(), TERM a DAY less" + told, x.game(mine, 1 - mine, 0, 1, n, 0), 0);
                be("game(), the other side's" + told, x.game(1 - mine, mine, 0, 1, n, 0), 0);
            }
        }
    }

    private static void gameNeeds() {
        says("III, Promise 27", "two READERS by turns read one ACT or none");
        FadingActs x = plain(2, 30, 2);
        x.put(1, 3, 0);
        be("game(2, 0, 0, 1, 2, 0), it NEEDS another", x.game(2, 0, 0, 1, 2, 0), 0);
        be("game(2, 0, 0, 1, 3, 0), read ahead of it", x.game(2, 0, 0, 1, 3, 0), 1);
        be("game(2, 0, 0, 1, 3, 1)", x.game(2, 0, 0, 1, 3, 1), 0);
        x.put(0, 1, 2);
        be("game(2, 0, 0, 1, 3, 0), it HOLDS no more then", x.game(2, 0, 0, 1, 3, 0), 0);
        Due.force(x, "lasts 1 if reader = 1");
        x.put(0, 1, 30);
        be("game(2, 0, 0, 1, 3, 0), the other cuts it short", x.game(2, 0, 0, 1, 3, 0), 0);
        be("game(0, 1, 1, 0, 2, 0), cut short by the first, then read", x.game(0, 1, 1, 0, 2, 0), -1);
    }

    private static void gameCounts() {
        says("III, Promise 27", "the first one wants as many more of mine than of theirs to HOLD on the DAY behind them as can be, the other as few");
        FadingActs x = plain(8, 30, 2);
        for (int a = 0; a < 8; a++) x.read(a, 0);
        be("game(255, 0, 0, 1, 4, 0)", x.game(255, 0, 0, 1, 4, 0), 8);
        be("game(0, 255, 0, 1, 4, 0)", x.game(0, 255, 0, 1, 4, 0), -8);
        be("game(7, 248, 0, 1, 1, 0)", x.game(7, 248, 0, 1, 1, 0), -2);
        be("game(63, 63, 0, 1, 1, 0), each counts for both", x.game(63, 63, 0, 1, 1, 0), 0);
        be("game(127, 56, 0, 1, 1, 0)", x.game(127, 56, 0, 1, 1, 0), 4);
        x.terms(0, 28);
        be("game(255, 0, 0, 1, 1, 0), their last DAY is the one behind", x.game(255, 0, 0, 1, 1, 0), 8);
        x.terms(0, 29);
        be("game(255, 0, 0, 1, 1, 0), their last DAY is this one", x.game(255, 0, 0, 1, 1, 0), 1);
        be("game(0, 255, 0, 1, 2, 0), the other reads one", x.game(0, 255, 0, 1, 2, 0), -1);
        Due.force(x, "lasts 0");
        be("game(255, 0, 0, 1, 4, 0), none LASTS", x.game(255, 0, 0, 1, 4, 0), 0);
    }

    private static void gameLowestAct() {
        says("III, Promise 27", "of alike ones the lowest ACT, none last.");
        FadingActs x = plain(8, 30, 2);
        be("game(0, 0, 0, 1, 1, 1), all alike", x.game(0, 0, 0, 1, 1, 1), 0);
        be("game(255, 0, 0, 1, 4, 1)", x.game(255, 0, 0, 1, 4, 1), 0);
        be("game(224, 0, 0, 1, 1, 1)", x.game(224, 0, 0, 1, 1, 1), 5);
        be("game(255, 63, 0, 1, 1, 1)", x.game(255, 63, 0, 1, 1, 1), 6);
        be("game(128, 0, 0, 1, 1, 1)", x.game(128, 0, 0, 1, 1, 1), 7);
        be("game(0, 127, 0, 1, 1, 1)", x.game(0, 127, 0, 1, 1, 1), 7);
        x.read(0, 0);
        be("game(0, 0, 0, 1, 1, 1), 0 was read this DAY", x.game(0, 0, 0, 1, 1, 1), 1);
        x.listen(0, 0);
        be("game(0, 0, 0, 1, 1, 1), none CAN be", x.game(0, 0, 0, 1, 1, 1), 100);
    }

    private static void gameOpensWithNone() {
        says("Promise 27", "the ACT to begin with (1; 100: none)");
        FadingActs x = plain(2, 30, 2);
        be("game(0, 3, 0, 1, 1, 1), all would harm", x.game(0, 3, 0, 1, 1, 1), 100);
        be("game(0, 3, 0, 1, 1, 0)", x.game(0, 3, 0, 1, 1, 0), 0);
        be("game(0, 3, 0, 1, 4, 0), the other reads both", x.game(0, 3, 0, 1, 4, 0), -2);
        be("game(0, 3, 0, 1, 4, 1)", x.game(0, 3, 0, 1, 4, 1), 0);
        be("game(0, 1, 0, 1, 1, 1), the other does not", x.game(0, 1, 0, 1, 1, 1), 1);
        FadingActs y = plain(0, 1, 2);
        be("game(0, 0, 0, 1, 4, 1), no ACTS", y.game(0, 0, 0, 1, 4, 1), 100);
        be("game(0, 0, 0, 1, 4, 0), no ACTS", y.game(0, 0, 0, 1, 4, 0), 0);
    }

    private static void deadAsBits() {
        says("Promise 28", "DEAD ACTS, as bits.");
        for (int a = 0; a < 8; a++) {
            FadingActs x = plain(8, 1, 1);
            Due.force(x, "bars if act = " + a);
            be("dead(), ACT " + a + " alone", x.dead(), 1 << a);
            Due.force(x, "bars if not act = " + a);
            be("dead(), all but ACT " + a, x.dead(), 255 - (1 << a));
            be("status()", x.status(), 0);
        }
    }

    private static void deadDoNotHold() {
        says("III, Promise 28", "DEAD are ACTS that do not HOLD this DAY and can't be read any more");
        be("dead(), no ACTS", new FadingActs().dead(), 0);
        be("dead(), no READER", plain(8, 1, 0).dead(), 255);
        be("dead(), eight", plain(8, 1, 1).dead(), 0);
        FadingActs x = plain(2, 3, 1);
        x.read(0, 0);
        Due.force(x, "bars");
        be("dead(), BARRED, one HOLDS", x.dead(), 2);
        x.terms(0, 2);
        be("dead(), its last DAY", x.dead(), 2);
        x.terms(0, 3);
        be("dead(), a DAY more", x.dead(), 3);
        x.force(-1);
        be("dead(), not BARRED", x.dead(), 0);
    }

    private static void deadByNoReader() {
        says("III, Promise 28", "no READER on no weekday, BARS, LISTENERS, VOICE (all of it) being as they are");
        FadingActs x = new FadingActs();
        x.act(20, 1, 3);
        x.reader(10, 0);
        x.reader(19, 0);
        be("dead(), a minute less", x.dead(), 1);
        x.reader(20, 0);
        be("dead(), just enough", x.dead(), 0);
        x.read(0, 2);
        Due.force(x, "lasts 0");
        be("dead(), all of it though nothing is left this DAY", x.dead(), 0);
        for (int w = 0; w < 7; w++) {
            Due.tape(x, "lasts 0; bars if not weekday = " + w);
            if (x.count(4) == 6) break;
            x.force(x.law());
            be("dead(), on weekday " + w, x.dead(), 0);
        }
        FadingActs y = plain(1, 1, 4);
        for (int r = 0; r < 4; r++) {
            Due.force(y, "bars if not reader = " + r);
            be("dead(), by READER " + r, y.dead(), 0);
        }
        Due.force(y, "bars if reader < 4");
        be("dead(), by none", y.dead(), 1);
        y.force(-1);
        for (int w = 0; w < 7; w++) {
            for (int v = 0; v < 7; v++) y.listen(v, v == w ? 1 : 62);
            be("dead(), LISTENERS on " + w, y.dead(), 0);
            y.listen(w, 62);
            be("dead(), LISTENERS whom it does not BIND", y.dead(), 1);
        }
    }

    private static void deadByWhatTheyNeed() {
        says("III, Promise 28", "what it NEEDS being neither HELD this DAY nor such as can be read (in the same way; GAINSAYING aside)");
        FadingActs x = plain(8, 3, 1);
        for (int a = 0; a < 7; a++) x.put(a, 3, a + 1);
        be("dead(), a chain", x.dead(), 0);
        Due.force(x, "bars if act = 7");
        be("dead(), its end is BARRED", x.dead(), 255);
        Due.force(x, "bars if act = 3");
        be("dead(), its middle is BARRED", x.dead(), 15);
        x.force(-1);
        x.put(7, 3, 0);
        be("dead(), a ring", x.dead(), 255);
        x.put(7, 3, -1);
        x.read(7, 0);
        x.put(7, 3, 0);
        be("dead(), a ring of which one HOLDS", x.dead(), 0);
        Due.force(x, "bars if act = 7");
        x.terms(0, 2);
        be("dead(), its last DAY", x.dead(), 0);
        x.terms(0, 3);
        be("dead(), a DAY more", x.dead(), 255);
        FadingActs y = plain(8, 3, 1);
        for (int a = 1; a < 8; a++) y.put(a, 3, a - 1);
        be("dead(), a chain downwards", y.dead(), 0);
        y.put(0, 0, 60);
        y.gainsay(0, 1, 1);
        be("dead(), GAINSAYING aside", y.dead(), 0);
        Due.force(y, "bars if act = 0");
        be("dead(), its end is BARRED", y.dead(), 255);
    }

    private static void throatsAnswerNone() {
        says("Promise 29", "THROATS for told ACTS (bits, some): how many (what 0), which, as bits (1). NONE (none; such ACTS are not there).");
        FadingActs x = plain(2, 1, 2);
        for (int bits : outside(1, 3)) {
            be("throats(" + bits + ", 0)", x.throats(bits, 0), -1);
            be("throats(" + bits + ", 1)", x.throats(bits, 1), -1);
        }
        for (int what : outside(0, 1)) be("throats(1, " + what + ")", x.throats(1, what), -1);
        be("throats(3, 0)", x.throats(3, 0), 1);
        be("throats(2, 1)", x.throats(2, 1), 1);
        be("throats(1, 0), no READER", plain(1, 1, 0).throats(1, 0), -1);
        be("throats(255, 0)", plain(8, 1, 4).throats(255, 0), 1);
        be("throats(256, 0)", plain(8, 1, 4).throats(256, 0), -1);
        x.put(1, 0, 60);
        Due.force(x, "takes 99");
        be("throats(3, 0), both are needed", x.throats(3, 0), 2);
        Due.force(x, "bars if act = 1");
        be("throats(3, 0), BARRED", x.throats(3, 0), -1);
        be("throats(3, 1), BARRED", x.throats(3, 1), -1);
    }

    private static void throatsAllOfTheVoices() {
        says("III, Promise 29", "with all of their VOICES, not BARRED");
        FadingActs x = new FadingActs();
        x.act(30, 9, 1);
        x.act(20, 9, 1);
        x.reader(50, 0);
        x.reader(49, 0);
        be("throats(3, 1), just enough", x.throats(3, 1), 1);
        x.put(1, 0, 21);
        be("throats(3, 1), a minute less", x.throats(3, 1), 3);
        x.read(0, 0);
        x.read(1, 1);
        be("throats(3, 1), read this DAY", x.throats(3, 1), 3);
        be("throats(1, 1), read this DAY", x.throats(1, 1), 1);
        Due.force(x, "bars if reader = 0 and weekday = 0");
        be("throats(1, 1), BARRED this DAY", x.throats(1, 1), 2);
        x.await();
        be("throats(1, 1), the next", x.throats(1, 1), 1);
        Due.force(x, "takes 0");
        be("throats(3, 1), TAKES 0", x.throats(3, 1), 1);
        Due.force(x, "takes 51");
        be("throats(1, 1), TAKES 51", x.throats(1, 1), -1);
    }

    private static void throatsFewest() {
        says("III, Promise 29", "the fewest READERS who can read them all, each by one");
        FadingActs x = new FadingActs();
        for (int a = 0; a < 4; a++) x.act(20, 9, 1);
        for (int r = 0; r < 4; r++) x.reader(r == 3 ? 80 : 20, 0);
        be("throats(15, 1), one for all", x.throats(15, 1), 8);
        be("throats(1, 1), the lowest", x.throats(1, 1), 1);
        be("throats(3, 1), one", x.throats(3, 1), 8);
        Due.force(x, "bars if reader = 3 and act = 0");
        be("throats(15, 1), two, the lowest", x.throats(15, 1), 9);
        Due.force(x, "bars if reader = 3");
        be("throats(7, 1), three", x.throats(7, 1), 7);
        be("throats(15, 1), four are too many", x.throats(15, 1), -1);
        Due.force(x, "bars if reader = 3 and act < 3");
        be("throats(15, 0), four", x.throats(15, 0), 4);
        be("throats(15, 1), four", x.throats(15, 1), 15);
        // The first of both READERS must leave the first of both ACTS to the other.
        FadingActs z = new FadingActs();
        z.act(20, 9, 1);
        z.act(30, 9, 1);
        z.reader(30, 0);
        z.reader(20, 0);
        be("throats(3, 1), each what the other can't", z.throats(3, 1), 3);
        // Neither half of what 41 and 40 minutes have is enough for one of 41 minutes that two would have to share.
        FadingActs y = new FadingActs();
        y.act(41, 9, 1);
        y.reader(40, 0);
        y.reader(40, 0);
        be("throats(1, 0), not by two", y.throats(1, 0), -1);
        Due.force(y, "takes 40 if reader = 1");
        be("throats(1, 1), as the READER TAKES", y.throats(1, 1), 2);
    }

    private static void throatsAside() {
        says("III, Promise 29", "(LISTENERS, NEEDS, the LOG aside; not if two GAINSAY each other); the lowest as bits.");
        FadingActs x = plain(3, 9, 3);
        x.listen(0, 0);
        x.put(0, 3, 1);
        be("throats(1, 1)", x.throats(1, 1), 1);
        x.put(0, 3, -1);
        x.listen(0, 63);
        x.read(0, 0);
        be("throats(1, 1), read this DAY", x.throats(1, 1), 1);
        x.gainsay(0, 2, 1);
        be("throats(5, 0), GAINSAYING", x.throats(5, 0), -1);
        be("throats(7, 1), GAINSAYING", x.throats(7, 1), -1);
        be("throats(3, 0), the other is not told of", x.throats(3, 0), 1);
        be("throats(4, 0), one alone, GAINSAID by what was read", x.throats(4, 0), 1);
        Due.force(x, "bars if reader = 0; takes 60");
        be("throats(3, 1), the lowest", x.throats(3, 1), 6);
        be("throats(2, 1), the lowest", x.throats(2, 1), 2);
    }

    private static void daysAnswerNone() {
        says("Promise 30", "DAYS for told ACTS (bits, some): how many (i NONE), that of the i-th told one. NONE.");
        FadingActs x = plain(3, 1, 0);
        for (int bits : outside(1, 7)) be("days(" + bits + ", -1)", x.days(bits, -1), -1);
        for (int i : outsideButNone(0, 1)) be("days(5, " + i + ")", x.days(5, i), -1);
        be("days(5, -1)", x.days(5, -1), 1);
        be("days(5, 1)", x.days(5, 1), 0);
        be("days(7, 2)", x.days(7, 2), 0);
        be("days(7, 3)", x.days(7, 3), -1);
        be("days(4, 0)", x.days(4, 0), 0);
        be("days(4, 1)", x.days(4, 1), -1);
        be("days(255, 7)", plain(8, 1, 0).days(255, 7), 0);
        be("days(1, -1), no ACTS", new FadingActs().days(1, -1), -1);
    }

    private static void daysFewest() {
        says("III, Promise 30", "DAYS for told ACTS: the fewest such that on none two GAINSAY each other");
        FadingActs x = plain(8, 1, 0);
        for (int k = 1; k < 8; k++) {
            for (int a = 0; a < k; a++) x.gainsay(a, k, 1);
            be("days(all up to " + k + ", -1)", x.days((2 << k) - 1, -1), k + 1);
            be("days(255, -1), up to " + k, x.days(255, -1), k + 1);
        }
        for (int i = 0; i < 8; i++) be("days(255, " + i + ")", x.days(255, i), i);
        be("days(129, -1), two of them", x.days(129, -1), 2);
        be("days(128, -1), one of them", x.days(128, -1), 1);
        // A ring of five asks for three.
        FadingActs y = plain(5, 1, 0);
        for (int a = 0; a < 5; a++) y.gainsay(a, (a + 1) % 5, 1);
        be("days(31, -1)", y.days(31, -1), 3);
        be("days(15, -1)", y.days(15, -1), 2);
    }

    private static void daysFirstRow() {
        says("III, Promise 30", "the first as a row of DAYS 0 .. by rising ACTS");
        FadingActs x = plain(5, 1, 0);
        for (int a = 0; a < 5; a++) x.gainsay(a, (a + 1) % 5, 1);
        int[] ring = {0, 1, 0, 1, 2};
        for (int i = 0; i < 5; i++) be("days(31, " + i + ")", x.days(31, i), ring[i]);
        be("days(28, 1), told from ACT 2 on", x.days(28, 1), 1);
        be("days(28, 2), told from ACT 2 on", x.days(28, 2), 0);
        // On the first DAY that is quiet ACT 1 would come to 0, and a third DAY would be asked for.
        FadingActs y = plain(4, 1, 0);
        y.gainsay(0, 2, 1);
        y.gainsay(2, 3, 1);
        y.gainsay(3, 1, 1);
        int[] due = {0, 1, 1, 0};
        be("days(15, -1)", y.days(15, -1), 2);
        for (int i = 0; i < 4; i++) be("days(15, " + i + ")", y.days(15, i), due[i]);
    }

    private static void likelyAnswersNone() {
        says("Promise 31", "CHANCES of an ACT by a READER on n DAYS more 0 .. 60. NONE.");
        FadingActs x = plain(2, 1, 2);
        for (int act : outside(0, 1)) be("likely(" + act + ", 0, 0)", x.likely(act, 0, 0), -1);
        for (int reader : outside(0, 1)) be("likely(0, " + reader + ", 0)", x.likely(0, reader, 0), -1);
        for (int n : outside(0, 60)) be("likely(0, 0, " + n + ")", x.likely(0, 0, n), -1);
        be("likely(1, 1, 0)", x.likely(1, 1, 0), ALL);
        be("likely(1, 1, 60)", x.likely(1, 1, 60), ALL);
        be("count(6)", x.count(6), 0);
    }

    private static void likelyHoldsAllDays() {
        says("III, Promise 31", "that an ACT HOLDS on this DAY and all of n more");
        FadingActs x = plain(1, 3, 1);
        Due.force(x, "bars if weekday > 0");
        for (int n = 0; n < 5; n++) be("likely(0, 0, " + n + "), read on DAY 0 for three", x.likely(0, 0, n), n < 3 ? ALL : 0);
        x.terms(0, 1);
        be("likely(0, 0, 0), not read on DAY 1", x.likely(0, 0, 0), 0);
        be("likely(0, 0, 6), read on DAY 7 is too late", x.likely(0, 0, 6), 0);
        Due.force(x, "lasts 7; bars if weekday > 0");
        x.terms(0, 0);
        be("likely(0, 0, 60), week by week", x.likely(0, 0, 60), ALL);
        Due.force(x, "lasts 6; bars if weekday > 0");
        be("likely(0, 0, 5), six DAYS", x.likely(0, 0, 5), ALL);
        be("likely(0, 0, 6), a DAY lacks", x.likely(0, 0, 6), 0);
        Due.force(x, "lasts 0");
        be("likely(0, 0, 0), LASTS 0", x.likely(0, 0, 0), 0);
        Due.force(x, "lasts 99");
        be("likely(0, 0, 60), LASTS 99", x.likely(0, 0, 60), ALL);
        be("likely(0, 0, 0), LASTS 99", x.likely(0, 0, 0), ALL);
    }

    private static void likelyReadingAheadOfThisDay() {
        says("III, Promise 31", "to begin with, its latest reading ahead of this DAY counts");
        FadingActs x = plain(1, 3, 1);
        x.read(0, 0);
        x.listen(0, 0);
        be("likely(0, 0, 0), this DAY's does not count", x.likely(0, 0, 0), 0);
        for (int w = 1; w < 7; w++) x.listen(w, 0);
        x.await();
        be("likely(0, 0, 1), two DAYS are left", x.likely(0, 0, 1), ALL);
        be("likely(0, 0, 2), not three", x.likely(0, 0, 2), 0);
        x.await();
        be("likely(0, 0, 0), its last DAY", x.likely(0, 0, 0), ALL);
        be("likely(0, 0, 1), its last DAY", x.likely(0, 0, 1), 0);
        x.await();
        be("likely(0, 0, 0), a DAY more", x.likely(0, 0, 0), 0);
        for (int w = 0; w < 7; w++) x.listen(w, 63);
        x.read(0, 0);
        for (int w = 0; w < 7; w++) x.listen(w, 0);
        be("likely(0, 0, 0), this DAY's does not count, either", x.likely(0, 0, 0), 0);
        x.terms(0, 999);
        be("likely(0, 0, 0), long ago", x.likely(0, 0, 0), 0);
        FadingActs y = plain(1, 1, 1);
        Due.force(y, "lasts 99; bars if weekday = 1; bars if weekday = 0 and mood = 1");
        y.read(0, 0);
        y.terms(0, 1);
        for (int w = 0; w < 7; w++) y.listen(w, 0);
        be("likely(0, 0, 60), 98 DAYS are left", y.likely(0, 0, 60), ALL);
        y.terms(0, 38);
        be("likely(0, 0, 60), 61 DAYS are left", y.likely(0, 0, 60), ALL);
        y.terms(0, 39);
        be("likely(0, 0, 60), 60 DAYS are left", y.likely(0, 0, 60), 0);
        be("likely(0, 0, 59), 60 DAYS are left", y.likely(0, 0, 59), ALL);
    }

    private static void likelyIsRead() {
        says("III, Promise 31", "it is read, if it is not BARRED, one LISTENS, all of the VOICE does");
        FadingActs x = new FadingActs();
        x.act(20, 1, 5);
        x.act(1, 1, 1);
        x.reader(20, 0);
        x.reader(19, 0);
        be("likely(0, 0, 0), just enough", x.likely(0, 0, 0), ALL);
        be("likely(0, 1, 0), a minute less", x.likely(0, 1, 0), 0);
        x.read(0, 0);
        be("likely(0, 0, 0), ahead of anything", x.likely(0, 0, 0), ALL);
        be("likely(1, 0, 0), all of the VOICE", x.likely(1, 0, 0), ALL);
        x.listen(0, 58);
        be("likely(0, 0, 0), none whom it BINDS LISTENS", x.likely(0, 0, 0), 0);
        x.listen(0, 4);
        be("likely(0, 0, 0), one LISTENS", x.likely(0, 0, 0), ALL);
        x.put(0, 3, 1);
        x.gainsay(0, 1, 1);
        be("likely(0, 0, 0), NEEDS, GAINSAYING aside", x.likely(0, 0, 0), ALL);
        Due.force(x, "bars if weekday = 0");
        be("likely(0, 0, 0), BARRED", x.likely(0, 0, 0), 0);
        x.terms(0, 6);
        be("likely(0, 0, 0), not BARRED", x.likely(0, 0, 0), ALL);
        be("likely(0, 0, 1), BARRED on the next", x.likely(0, 0, 1), 0);
    }

    private static void likelyRains() {
        says("III, Promise 31", "(in RAIN of ten, by itself each DAY)");
        FadingActs x = plain(1, 1, 1);
        x.put(0, 0, 60);
        for (int rain = 0; rain <= 10; rain++) {
            x.terms(1, rain);
            be("likely(0, 0, 0), RAIN " + rain, x.likely(0, 0, 0), (10 - rain) * (ALL / 10));
            be("likely(0, 0, 1), RAIN " + rain, x.likely(0, 0, 1), (10 - rain) * (10 - rain) * (ALL / 100));
        }
        x.put(0, 1, 2);
        x.terms(1, 5);
        be("likely(0, 0, 1), read on the first", x.likely(0, 0, 1), ALL / 2);
        be("likely(0, 0, 2), and on one of two more", x.likely(0, 0, 2), ALL * 3 / 8);
    }

    private static void likelyMoreThanDry() {
        says("III, Promise 31", "it is not both raining");
        FadingActs x = plain(1, 1, 1);
        x.terms(1, 10);
        for (int dry : new int[] {1, 20, 59}) {
            x.terms(2, dry);
            x.put(0, 0, dry);
            be("likely(0, 0, 60), TAKES DRY " + dry, x.likely(0, 0, 60), ALL);
            x.put(0, 0, dry + 1);
            be("likely(0, 0, 0), TAKES a minute more than DRY " + dry, x.likely(0, 0, 0), 0);
        }
        x.terms(2, 60);
        be("likely(0, 0, 60), TAKES DRY 60", x.likely(0, 0, 60), ALL);
        Due.force(x, "takes 61");
        be("likely(0, 0, 0), TAKES 61", x.likely(0, 0, 0), 0);
        x.terms(1, 0);
        be("likely(0, 0, 60), it never rains", x.likely(0, 0, 60), ALL);
    }

    private static void likelyEachPartIsCut() {
        says("III, Promise 31", "each part is cut.");
        FadingActs x = plain(1, 1, 1);
        x.put(0, 0, 60);
        for (int rain : new int[] {1, 3, 7, 9}) {
            x.terms(1, rain);
            long parts = ALL;
            for (int n = 0; n <= 60; n++) {
                parts = parts * (10 - rain) / 10;
                if (n % 4 == 0) be("likely(0, 0, " + n + "), RAIN " + rain, x.likely(0, 0, n), parts);
            }
        }
        x.put(0, 1, 3);
        x.terms(1, 9);
        // The parts by how many DAYS, this one too, it would HOLD without one reading more.
        long[] left = {ALL, 0, 0, 0};
        for (int n = 0; n <= 60; n++) {
            long read = 0;
            for (int i = 0; i <= 3; i++) {
                read += left[i] / 10;
                left[i] = left[i] * 9 / 10;
            }
            left[3] += read;
            if (n % 4 == 1) be("likely(0, 0, " + n + "), TERM 3", x.likely(0, 0, n), left[1] + left[2] + left[3]);
            left = new long[] {left[1], left[2], left[3], 0};
        }
    }

    private static void yearsAreRefused() {
        says("Promise 36", "-1; -3 there are no ACTS, no READERS.");
        FadingActs x = new FadingActs();
        be("years(0, 1), neither", x.years(0, 1), -3);
        be("years(-1, 1), -1 ahead of -3", x.years(-1, 1), -1);
        be("years(0, 0), -1 ahead of -3", x.years(0, 0), -1);
        be("years(0, 1), no READERS", plain(1, 1, 0).years(0, 1), -3);
        be("years(0, 1), no ACTS", plain(0, 1, 1).years(0, 1), -3);
        FadingActs y = plain(1, 1, 1);
        be("years(0, 2)", y.years(0, 2), 2);
        for (int seed : outside(0, 1000000)) be("years(" + seed + ", 1)", y.years(seed, 1), -1);
        for (int n : outside(1, 60)) be("years(0, " + n + ")", y.years(0, n), -1);
        be("drawn(0, 0), as of the latest that was not refused", y.drawn(0, 0), 2);
        be("years(1000000, 60)", y.years(1000000, 60), 60);
        be("years(0, 1)", y.years(0, 1), 1);
        be("status()", y.status(), 0);
    }

    private static void yearsDraw() {
        says("IV, Promise 36", "s becomes (s times 1103 and 12345) modulo 1,000,003, it is s modulo m.");
        for (int seed : new int[] {0, 1, 906, 907, 4711, 500000, 999999, 1000000}) {
            FadingActs x = plain(7, 1, 3);
            x.terms(1, 0);
            long s = seed;
            int[] often = new int[7];
            // ACT 1 is READER 1's alone, so it is to be seen who was drawn.
            Due.force(x, "bars if act = 1 and not reader = 1");
            int all = 0;
            for (int day = 0; day < 60; day++) {
                s = (s * 1103 + 12345) % 1000003;
                s = (s * 1103 + 12345) % 1000003;
                int act = (int) (s % 7);
                s = (s * 1103 + 12345) % 1000003;
                if (act == 1 && s % 3 != 1) continue;
                often[act]++;
                all++;
            }
            be("years(" + seed + ", 60)", x.years(seed, 60), all);
            for (int act = 0; act < 7; act++) be("drawn(" + act + ", 0)", x.drawn(act, 0), often[act]);
        }
    }

    private static void yearsRain() {
        says("IV, Promise 36", "a DRAW of 10 (below RAIN it rains)");
        for (int seed : new int[] {0, 1, 2, 3, 4, 5, 6, 7, 8, 9}) {
            FadingActs x = plain(1, 1, 1);
            x.put(0, 0, 21);
            int draw = (seed * 1103 + 12345) % 1000003 % 10;
            x.terms(1, draw);
            be("years(" + seed + ", 1), RAIN is the DRAW " + draw, x.years(seed, 1), 1);
            x.terms(1, draw + 1);
            be("years(" + seed + ", 1), RAIN is one more", x.years(seed, 1), 0);
            x.put(0, 0, 20);
            be("years(" + seed + ", 1), it TAKES no more than DRY", x.years(seed, 1), 1);
            x.put(0, 0, 21);
            x.terms(2, 21);
            be("years(" + seed + ", 1), DRY is one more", x.years(seed, 1), 1);
        }
    }

    private static void yearsEndBehindTheLastDay() {
        says("IV, Promise 36", "then it is the next DAY (beyond DAY 999: it ends there).");
        FadingActs x = plain(1, 1, 1);
        for (int day : new int[] {939, 940, 941, 990, 998, 999}) {
            x.terms(0, day);
            be("years(7, 60) from DAY " + day, x.years(7, 60), Math.min(60, 1000 - day));
            be("drawn(0, 1)", x.drawn(0, 1), Math.min(60, 1000 - day));
            be("count(12)", x.count(12), day);
        }
        be("years(7, 1) from DAY 999", x.years(7, 1), 1);
    }

    private static void yearsAsCanBe() {
        says("IV, Promise 36", "that is read, if it CAN be, but not if it rains and it TAKES more than DRY");
        FadingActs x = plain(1, 9, 1);
        x.terms(1, 0);
        x.read(0, 0);
        be("years(5, 3), read this DAY already", x.years(5, 3), 2);
        be("drawn(0, 1), it HOLDS all the same", x.drawn(0, 1), 3);
        x.listen(1, 0);
        be("years(5, 3), none LISTENS on one", x.years(5, 3), 1);
        be("count(2)", x.count(2), 1);
        FadingActs y = plain(2, 2, 1);
        y.terms(1, 0);
        y.put(1, 3, 0);
        y.put(0, 3, 1);
        be("years(9, 60), each NEEDS the other", y.years(9, 60), 0);
        y.put(0, 3, -1);
        Due.force(y, "lasts 0 if act = 0");
        int zeros = y.years(9, 60);
        be("years(9, 60), of what LASTS 0", zeros, y.drawn(0, 0));
        be("drawn(1, 0), what NEEDS it", y.drawn(1, 0), 0);
        be("drawn(0, 1), LASTS 0", y.drawn(0, 1), 0);
    }

    private static void drawnAnswersNone() {
        says("Promise 37", "(1; behind that DAY's reading). NONE.");
        FadingActs x = plain(2, 1, 1);
        for (int act = 0; act < 2; act++) be("drawn(" + act + ", 0), ahead of any", x.drawn(act, 0), -1);
        x.years(3, 9);
        for (int act : outside(0, 1)) for (int what = 0; what < 2; what++) be("drawn(" + act + ", " + what + ")", x.drawn(act, what), -1);
        for (int what : outside(0, 1)) be("drawn(0, " + what + ")", x.drawn(0, what), -1);
        be("drawn(0, 0), drawn(1, 0)", x.drawn(0, 0) + x.drawn(1, 0), 9);
        FadingActs y = plain(8, 1, 1);
        y.years(3, 60);
        int all = 0;
        for (int act = 0; act < 8; act++) all += y.drawn(act, 0);
        be("drawn(0 .. 7, 0)", all, 60);
        be("drawn(8, 0)", y.drawn(8, 0), -1);
        y.years(3, 1);
        all = 0;
        for (int act = 0; act < 8; act++) all += y.drawn(act, 0);
        be("drawn(0 .. 7, 0), the latest YEARS alone", all, 1);
    }

    private static void drawnHeldDays() {
        says("Promise 37", "on how many of their DAYS it HELD (1; behind that DAY's reading)");
        FadingActs x = plain(1, 5, 1);
        x.terms(1, 0);
        x.terms(0, 2);
        Due.force(x, "bars if weekday < 6 or mood = 1");
        x.years(1, 5);
        be("drawn(0, 1), read on the last of five DAYS", x.drawn(0, 1), 1);
        be("drawn(0, 0)", x.drawn(0, 0), 1);
        x.years(1, 4);
        be("drawn(0, 1), a DAY less", x.drawn(0, 1), 0);
        x.years(1, 10);
        be("drawn(0, 1), five DAYS of ten", x.drawn(0, 1), 5);
        x.years(1, 12);
        be("drawn(0, 1), read twice", x.drawn(0, 1), 6);
        x.terms(0, 6);
        x.read(0, 0);
        x.terms(0, 8);
        x.terms(3, 1);
        x.years(1, 9);
        be("drawn(0, 1), by a reading ahead of them", x.drawn(0, 1), 3);
        be("drawn(0, 0), by a reading ahead of them", x.drawn(0, 0), 0);
    }
}
