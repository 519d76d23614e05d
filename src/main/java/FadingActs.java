import java.util.Arrays;

/** A republic in which acts hold only for some days from when they were last read out. */
public final class FadingActs {
    public static final int NONE = -1;
    public static final int NOTHING = -1000;

    private static final int WRONG_NUMBER = -1;
    private static final int NO_SUCH = -2;
    private static final int CANNOT_BE = -3;
    private static final int NO_ROOM = -5;
    private static final int WRONG_TEXT = -6;

    private static final int MOST_ACTS = 8;
    private static final int MOST_READERS = 4;
    private static final int MOST_READINGS = 24;
    private static final int MOST_FINES = 8;
    private static final int MOST_LAWS = 6;
    private static final int MOST_YEARS = 60;
    private static final int MOST_MORNINGS = 5;
    private static final int MOST_GAME = 4;
    private static final int MOST_LIKELY = 60;
    private static final int MOST_SEED = 1000000;
    private static final int IMAGES = 2;
    private static final int CLASSES = 6;
    private static final int ALL_CLASSES = 63;
    private static final int WEEK = 7;
    private static final int LAST_DAY = 999;
    private static final int LONGEST = 99;
    private static final int LOUDEST = 99;

    private static final int LENGTH = 0;
    private static final int TERM = 1;
    private static final int BINDS = 2;
    private static final int NEEDS = 3;
    private static final int TRAITS = 4;

    private static final int DAY = 0;
    private static final int RAIN = 1;
    private static final int DRY = 2;
    private static final int MOOD = 3;
    private static final int TERMS = 4;

    /** What mornings() and game() answer for a morning on which nothing is read. */
    private static final int NOTHING_READ = 100;

    private final Realm realm = new Realm();
    private final Realm[] images = new Realm[IMAGES];
    private final Tape tape = new Tape();
    private final Parser parser = new Parser(tape);
    private final Court court = new Court(realm);
    private final Orders runner = new Orders(realm, court);
    private final Mornings planner = new Mornings(realm, court);
    private final Sharing sharing = new Sharing(realm, court);
    private final Outlook outlook = new Outlook(realm, court);
    private final Years diary = new Years(realm, court);
    private final int[] refusals = new int[5];
    private int latestRefusal;
    private int latestMud;

    public FadingActs() {
    }

    public int act(int length, int term, int binds) {
        if (!Realm.canBeAct(length, term, binds)) {
            return refused(WRONG_NUMBER);
        }
        if (realm.acts >= MOST_ACTS) {
            return refused(NO_ROOM);
        }
        return granted(realm.addAct(length, term, binds, NONE));
    }

    public int put(int act, int what, int value) {
        boolean canBe = what == NEEDS ? Realm.canBeNeed(act, value) : Realm.canBeTrait(what, value);
        if (!canBe) {
            return refused(WRONG_NUMBER);
        }
        boolean isNeed = what == NEEDS && value != NONE;
        if (!realm.isAct(act) || isNeed && !realm.isAct(value)) {
            return refused(NO_SUCH);
        }
        int was = realm.trait(act, what);
        realm.traits[act * TRAITS + what] = value;
        court.forget();
        return granted(was);
    }

    public int of(int act, int what) {
        if (!realm.isAct(act) || what < 0 || what > 5) {
            return NONE;
        }
        if (what < TRAITS) {
            return realm.trait(act, what);
        }
        int today = realm.terms[DAY];
        if (what == 4) {
            return realm.daysSince(act, today);
        }
        return court.holds(act, today) ? 1 : 0;
    }

    public int gainsay(int one, int other, int is) {
        if (one == other || is < 0 || is > 1) {
            return refused(WRONG_NUMBER);
        }
        if (!realm.isAct(one) || !realm.isAct(other)) {
            return refused(NO_SUCH);
        }
        int was = realm.gainsaid[one] >> other & 1;
        realm.gainsaid[one] = realm.gainsaid[one] & ~(1 << other) | is << other;
        realm.gainsaid[other] = realm.gainsaid[other] & ~(1 << one) | is << one;
        return granted(was);
    }

    public int reader(int voice, int kind) {
        if (voice < 1 || voice > LOUDEST || kind < 0 || kind >= CLASSES) {
            return refused(WRONG_NUMBER);
        }
        if (realm.readers >= MOST_READERS) {
            return refused(NO_ROOM);
        }
        int number = realm.readers;
        realm.voices[number] = voice;
        realm.kinds[number] = kind;
        realm.readers++;
        return granted(number);
    }

    public int throat(int reader, int what) {
        if (!realm.isReader(reader) || what < 0 || what > 2) {
            return NONE;
        }
        if (what == 0) {
            return realm.voices[reader];
        }
        return what == 1 ? realm.kinds[reader] : court.voiceLeft(reader, realm.terms[DAY]);
    }

    public int listen(int weekday, int kinds) {
        if (weekday < 0 || weekday >= WEEK || kinds < 0 || kinds > ALL_CLASSES) {
            return refused(WRONG_NUMBER);
        }
        int was = realm.listeners[weekday];
        realm.listeners[weekday] = kinds;
        return granted(was);
    }

    public int terms(int what, int value) {
        if (what < 0 || what >= TERMS || !Realm.canBeTerm(what, value)) {
            return refused(WRONG_NUMBER);
        }
        if (what == DAY && value < realm.latestToldDay()) {
            return refused(CANNOT_BE);
        }
        int was = realm.terms[what];
        realm.terms[what] = value;
        court.forget();
        return granted(was);
    }

    public int feed(int a, int b, int c, int d, int e) {
        if (tape.size > Tape.ROOM - 20) {
            return NONE;
        }
        tape.add(a);
        tape.add(b);
        tape.add(c);
        tape.add(d);
        tape.add(e);
        return tape.size;
    }

    public int end(int n) {
        if (n < 0 || n > tape.size) {
            return NONE;
        }
        tape.size = n;
        return n;
    }

    public int row() {
        if (tape.size == 0) {
            return refused(WRONG_TEXT);
        }
        int came = 0;
        latestMud = 0;
        for (int at = 0; at < tape.size; at += TRAITS) {
            if (addActOfRow(at)) {
                came++;
            } else {
                latestMud++;
            }
        }
        tape.size = 0;
        return granted(came);
    }

    public int mud() {
        return latestMud;
    }

    public int law() {
        if (realm.laws >= MOST_LAWS) {
            tape.size = 0;
            return refused(NO_ROOM);
        }
        Text text = parser.compile(true);
        tape.size = 0;
        if (text == null) {
            return refused(WRONG_TEXT);
        }
        int number = realm.laws;
        realm.texts[number] = text;
        realm.laws++;
        return granted(number);
    }

    public int orders() {
        Text text = parser.compile(false);
        tape.size = 0;
        runner.stoppedAt = NONE;
        if (text == null) {
            return refused(WRONG_TEXT);
        }
        int answer = runner.runWholly(text);
        return answer < 0 ? refused(answer) : granted(answer);
    }

    public int fault() {
        return parser.faultAt;
    }

    public int stopped() {
        return runner.stoppedAt;
    }

    public int force(int law) {
        if (law != NONE && (law < 0 || law >= realm.laws)) {
            return refused(NO_SUCH);
        }
        int was = realm.inForce;
        realm.inForce = law;
        court.forget();
        return granted(was);
    }

    public int asks(int act, int reader, int what) {
        if (!realm.isAct(act) || !realm.isReader(reader)) {
            return NONE;
        }
        int today = realm.terms[DAY];
        switch (what) {
            case 0:
                return court.lasts(act, reader, today);
            case 1:
                return court.takes(act, reader, today);
            case 2:
                return court.bars(act, reader, today) ? 1 : 0;
            case 3:
                return court.can(act, reader, today) ? 1 : 0;
            default:
                return NONE;
        }
    }

    public int read(int act, int reader) {
        int answer = court.tell(act, reader);
        return answer < 0 ? refused(answer) : granted(answer);
    }

    public int undo() {
        if (realm.told == 0) {
            return refused(CANNOT_BE);
        }
        realm.told--;
        return granted(realm.toldActs[realm.told]);
    }

    public int log(int i, int what) {
        if (i < 0 || i >= realm.told) {
            return NONE;
        }
        switch (what) {
            case 0:
                return realm.toldActs[i];
            case 1:
                return realm.toldReaders[i];
            case 2:
                return realm.toldDays[i];
            case 3:
                return court.lasts(realm.toldActs[i], realm.toldReaders[i], realm.toldDays[i]);
            default:
                return NONE;
        }
    }

    public int await() {
        int answer = court.nextDay();
        return answer < 0 ? refused(answer) : granted(answer);
    }

    public int held(int day) {
        return Realm.canBeTerm(DAY, day) ? court.heldBits(day) : NONE;
    }

    public int bound(int kind, int day) {
        if (kind < 0 || kind >= CLASSES || !Realm.canBeTerm(DAY, day)) {
            return NONE;
        }
        return court.heldBits(day) & realm.bindersOf(kind);
    }

    public int mornings(int mine, int theirs, int reader, int n, int i) {
        if (!realm.areActs(mine) || !realm.areActs(theirs) || !realm.isReader(reader)) {
            return NONE;
        }
        if (n < 1 || n > MOST_MORNINGS || i < NONE || i >= n) {
            return NONE;
        }
        int fewest = planner.fewestReadings(mine, theirs, reader, n);
        if (i == NONE || fewest == NONE) {
            return fewest;
        }
        return planner.bestRow[i];
    }

    public int game(int mine, int theirs, int first, int other, int n, int what) {
        if (!realm.areActs(mine) || !realm.areActs(theirs)) {
            return NOTHING;
        }
        if (!realm.isReader(first) || !realm.isReader(other) || first == other) {
            return NOTHING;
        }
        if (n < 1 || n > MOST_GAME || what < 0 || what > 1) {
            return NOTHING;
        }
        int margin = planner.playOut(mine, theirs, first, other, n);
        return what == 0 ? margin : planner.opening;
    }

    public int dead() {
        return sharing.deadBits();
    }

    public int throats(int acts, int what) {
        if (acts == 0 || !realm.areActs(acts) || what < 0 || what > 1) {
            return NONE;
        }
        int readers = sharing.fewestReaders(acts);
        if (readers == NONE) {
            return NONE;
        }
        return what == 0 ? Integer.bitCount(readers) : readers;
    }

    public int days(int acts, int i) {
        if (acts == 0 || !realm.areActs(acts) || i < NONE || i >= Integer.bitCount(acts)) {
            return NONE;
        }
        int fewest = sharing.fewestDays(acts);
        return i == NONE ? fewest : sharing.dayOfTold[i];
    }

    public long likely(int act, int reader, int n) {
        if (!realm.isAct(act) || !realm.isReader(reader) || n < 0 || n > MOST_LIKELY) {
            return NONE;
        }
        return outlook.chances(act, reader, n);
    }

    public int fine(int day, int kind, int act, int is) {
        if (!Realm.canBeTerm(DAY, day) || kind < 0 || kind >= CLASSES || is < 0 || is > 1) {
            return refused(WRONG_NUMBER);
        }
        if (!realm.isAct(act)) {
            return refused(NO_SUCH);
        }
        if (realm.fines >= MOST_FINES) {
            return refused(NO_ROOM);
        }
        realm.fineDays[realm.fines] = day;
        realm.fineKinds[realm.fines] = kind;
        realm.fineActs[realm.fines] = act;
        realm.fineIs[realm.fines] = is;
        realm.fines++;
        return granted(realm.fines);
    }

    public int forgive() {
        int were = realm.fines;
        realm.fines = 0;
        return were;
    }

    public int judge() {
        return outlook.areFinesSo() ? 1 : 0;
    }

    public int unwritten(int i) {
        return i < NONE ? NONE : outlook.unwrittenReading(i);
    }

    public int years(int seed, int n) {
        if (seed < 0 || seed > MOST_SEED || n < 1 || n > MOST_YEARS) {
            return refused(WRONG_NUMBER);
        }
        if (realm.acts == 0 || realm.readers == 0) {
            return refused(CANNOT_BE);
        }
        return granted(diary.live(seed, n));
    }

    public int drawn(int act, int what) {
        if (act < 0 || act >= diary.acts || what < 0 || what > 1) {
            return NONE;
        }
        return what == 0 ? diary.readings[act] : diary.heldDays[act];
    }

    public int image(int k) {
        if (k < 0 || k >= IMAGES) {
            return refused(WRONG_NUMBER);
        }
        Realm kept = images[k];
        if (kept == null) {
            kept = new Realm();
            images[k] = kept;
        }
        kept.become(realm);
        return granted(0);
    }

    public int back(int k) {
        if (k < 0 || k >= IMAGES) {
            return refused(WRONG_NUMBER);
        }
        Realm kept = images[k];
        if (kept == null) {
            return refused(NO_SUCH);
        }
        realm.become(kept);
        court.forget();
        return granted(0);
    }

    public int count(int what) {
        switch (what) {
            case 0:
                return realm.acts;
            case 1:
                return realm.readers;
            case 2:
                return realm.told;
            case 3:
                return realm.fines;
            case 4:
                return realm.laws;
            case 5:
                return tape.size;
            case 11:
                return realm.inForce;
            default:
                if (what >= 6 && what <= 10) {
                    return refusals[what - 6];
                }
                return what >= 12 && what <= 15 ? realm.terms[what - 12] : NONE;
        }
    }

    public int status() {
        return latestRefusal;
    }

    private int granted(int answer) {
        latestRefusal = 0;
        return answer;
    }

    private int refused(int why) {
        latestRefusal = why;
        // -4 is no refusal, so -5 and -6 stand one place nearer.
        int place = why > NO_ROOM ? -why - 1 : -why - 2;
        if (place >= 0 && place < refusals.length) {
            refusals[place]++;
        }
        return why;
    }

    private boolean addActOfRow(int at) {
        if (at > tape.size - TRAITS || realm.acts >= MOST_ACTS) {
            return false;
        }
        int length = tape.bytes[at + LENGTH];
        int term = tape.bytes[at + TERM];
        int binds = tape.bytes[at + BINDS];
        int needs = tape.bytes[at + NEEDS] - 1;
        if (!Realm.canBeAct(length, term, binds) || needs != NONE && !realm.isAct(needs)) {
            return false;
        }
        realm.addAct(length, term, binds, needs);
        return true;
    }

    /** All that an image keeps. */
    private static final class Realm {
        private static final int[] LOWEST_TRAIT = {1, 1, 1};
        private static final int[] HIGHEST_TRAIT = {60, 30, 63};
        private static final int[] LOWEST_TERM = {0, 0, 1, 0};
        private static final int[] HIGHEST_TERM = {999, 10, 60, 9};

        int acts;
        final int[] traits = new int[MOST_ACTS * TRAITS];
        final int[] gainsaid = new int[MOST_ACTS];
        int readers;
        final int[] voices = new int[MOST_READERS];
        final int[] kinds = new int[MOST_READERS];
        final int[] listeners = new int[WEEK];
        final int[] terms = new int[TERMS];
        int told;
        // Years are written behind the log on paper, so it has room for them too.
        final int[] toldActs = new int[MOST_READINGS + MOST_YEARS];
        final int[] toldReaders = new int[MOST_READINGS + MOST_YEARS];
        final int[] toldDays = new int[MOST_READINGS + MOST_YEARS];
        int fines;
        final int[] fineDays = new int[MOST_FINES];
        final int[] fineKinds = new int[MOST_FINES];
        final int[] fineActs = new int[MOST_FINES];
        final int[] fineIs = new int[MOST_FINES];
        int laws;
        final Text[] texts = new Text[MOST_LAWS];
        int inForce = NONE;

        Realm() {
            Arrays.fill(listeners, ALL_CLASSES);
            terms[RAIN] = 3;
            terms[DRY] = 20;
        }

        static boolean canBeTrait(int what, int value) {
            if (what < 0 || what >= LOWEST_TRAIT.length) {
                return false;
            }
            return value >= LOWEST_TRAIT[what] && value <= HIGHEST_TRAIT[what];
        }

        /**
         * Beyond the acts there is no such act, which is refused later; below NONE it is no act's number at all.
         * Itself can't be whatever the number is, so NONE of an act NONE can't be either.
         */
        static boolean canBeNeed(int act, int needs) {
            return needs >= NONE && needs != act;
        }

        static boolean canBeAct(int length, int term, int binds) {
            return canBeTrait(LENGTH, length) && canBeTrait(TERM, term) && canBeTrait(BINDS, binds);
        }

        static boolean canBeTerm(int what, int value) {
            if (what < 0 || what >= LOWEST_TERM.length) {
                return false;
            }
            return value >= LOWEST_TERM[what] && value <= HIGHEST_TERM[what];
        }

        boolean isAct(int act) {
            return act >= 0 && act < acts;
        }

        boolean isReader(int reader) {
            return reader >= 0 && reader < readers;
        }

        boolean areActs(int bits) {
            return bits >= 0 && bits < 1 << acts;
        }

        int trait(int act, int what) {
            return traits[act * TRAITS + what];
        }

        int bindersOf(int kind) {
            int bits = 0;
            for (int act = 0; act < acts; act++) {
                bits |= (trait(act, BINDS) >> kind & 1) << act;
            }
            return bits;
        }

        boolean isHeardOn(int act, int day) {
            return (trait(act, BINDS) & listeners[day % WEEK]) != 0;
        }

        int addAct(int length, int term, int binds, int needs) {
            int number = acts;
            traits[number * TRAITS + LENGTH] = length;
            traits[number * TRAITS + TERM] = term;
            traits[number * TRAITS + BINDS] = binds;
            traits[number * TRAITS + NEEDS] = needs;
            acts++;
            return number;
        }

        int latestToldDay() {
            return told > 0 ? toldDays[told - 1] : 0;
        }

        /** No day is ever told ahead of the log's, so the last one told is the latest. */
        int latestTold(int act, int day) {
            for (int i = told - 1; i >= 0; i--) {
                if (toldActs[i] == act && toldDays[i] <= day) {
                    return i;
                }
            }
            return NONE;
        }

        int daysSince(int act, int day) {
            int latest = latestTold(act, day);
            return latest == NONE ? NONE : day - toldDays[latest];
        }

        int actsToldOn(int day) {
            int bits = 0;
            for (int i = told - 1; i >= 0; i--) {
                if (toldDays[i] == day) {
                    bits |= 1 << toldActs[i];
                }
            }
            return bits;
        }

        void write(int act, int reader, int day) {
            if (told >= toldActs.length) {
                return;
            }
            toldActs[told] = act;
            toldReaders[told] = reader;
            toldDays[told] = day;
            told++;
        }

        Text textInForce() {
            return inForce >= 0 && inForce < laws ? texts[inForce] : null;
        }

        void become(Realm other) {
            acts = other.acts;
            readers = other.readers;
            told = other.told;
            fines = other.fines;
            laws = other.laws;
            inForce = other.inForce;
            System.arraycopy(other.traits, 0, traits, 0, traits.length);
            System.arraycopy(other.gainsaid, 0, gainsaid, 0, gainsaid.length);
            System.arraycopy(other.voices, 0, voices, 0, voices.length);
            System.arraycopy(other.kinds, 0, kinds, 0, kinds.length);
            System.arraycopy(other.listeners, 0, listeners, 0, listeners.length);
            System.arraycopy(other.terms, 0, terms, 0, terms.length);
            System.arraycopy(other.toldActs, 0, toldActs, 0, told);
            System.arraycopy(other.toldReaders, 0, toldReaders, 0, told);
            System.arraycopy(other.toldDays, 0, toldDays, 0, told);
            System.arraycopy(other.fineDays, 0, fineDays, 0, fines);
            System.arraycopy(other.fineKinds, 0, fineKinds, 0, fines);
            System.arraycopy(other.fineActs, 0, fineActs, 0, fines);
            System.arraycopy(other.fineIs, 0, fineIs, 0, fines);
            for (int law = 0; law < MOST_LAWS; law++) {
                texts[law] = law < laws ? other.texts[law] : null;
            }
        }
    }

    /** The bytes that were fed, and the token of them at which a parser stands. */
    private static final class Tape {
        static final int ROOM = 400;
        private static final int LETTERS = 0;
        private static final int DIGITS = 1;
        private static final int SIGN = 2;
        private static final int END = 3;
        private static final int TOO_HIGH = 9999;

        final int[] bytes = new int[ROOM];
        int size;
        int from;
        private int to;
        private int sort;

        void add(int four) {
            for (int shift = 24; shift >= 0 && size < ROOM; shift -= 8) {
                bytes[size] = four >>> shift & 255;
                size++;
            }
        }

        void rewind() {
            to = 0;
            advance();
        }

        void advance() {
            from = to;
            while (from < size && bytes[from] == ' ') {
                from++;
            }
            to = from;
            if (from >= size) {
                sort = END;
                return;
            }
            sort = sortOf(bytes[from]);
            to++;
            while (sort != SIGN && to < size && sortOf(bytes[to]) == sort) {
                to++;
            }
        }

        boolean isAtEnd() {
            return sort == END;
        }

        boolean isSign(char sign) {
            return sort == SIGN && bytes[from] == sign;
        }

        boolean isWord(String word) {
            return indexAmong(word) == 0;
        }

        /** Which of some words, with a blank between any two, the token is. */
        int indexAmong(String words) {
            if (sort != LETTERS) {
                return NONE;
            }
            int index = 0;
            int same = 0;
            for (int i = 0; i <= words.length(); i++) {
                boolean ends = i == words.length() || words.charAt(i) == ' ';
                if (ends && same == to - from) {
                    return index;
                }
                if (ends) {
                    index++;
                    same = 0;
                } else if (same != NONE && same < to - from && bytes[from + same] == words.charAt(i)) {
                    same++;
                } else {
                    same = NONE;
                }
            }
            return NONE;
        }

        /** The token as a number, NONE if it is no number. */
        int number() {
            if (sort != DIGITS) {
                return NONE;
            }
            int value = 0;
            for (int i = from; i < to; i++) {
                value = Math.min(TOO_HIGH, value * 10 + bytes[i] - '0');
            }
            return value;
        }

        private static int sortOf(int sign) {
            if (sign >= 'a' && sign <= 'z') {
                return LETTERS;
            }
            return sign >= '0' && sign <= '9' ? DIGITS : SIGN;
        }
    }

    /** A text of either language that was parsed: clauses, each of three parts in postfix order. */
    private static final class Text {
        static final int MOST_CLAUSES = 12;
        static final int MOST_PARTS = 50;
        static final long BROKEN = -4000000000L;
        private static final long HIGHEST = 1000000000L;

        static final int LASTS = 0;
        static final int TAKES = 1;
        static final int BARS = 2;
        static final int READ = 0;
        static final int WAIT = 1;

        static final int FIRST_SUM = 0;
        static final int SECOND_SUM = 1;
        static final int TEST = 2;
        static final int SECTIONS = 3;
        static final int KIND = 4;
        static final int TIMES = 5;
        static final int HEAD = 6;

        static final int NUMBER = 0;
        static final int WORD = 1;
        static final int NOT = 2;
        static final int AND = 3;
        static final int OR = 4;
        static final int PLUS = 5;
        static final int LESS = 6;
        static final int TIMES_SIGN = 7;
        static final int DIVIDED = 8;
        static final int REST = 9;
        static final int BELOW = 10;
        static final int ABOVE = 11;
        static final int ALIKE = 12;
        static final int STEP_BITS = 4;

        final int clauses;
        final int wordsUsed;
        private final int[] code;
        private final int[] heads;

        Text(int[] code, int[] heads, int clauses, int wordsUsed) {
            this.code = code;
            this.heads = heads;
            this.clauses = clauses;
            this.wordsUsed = wordsUsed;
        }

        int headOf(int clause, int what) {
            return heads[clause * HEAD + what];
        }

        /** A sum's number, a test's 1 or 0, or BROKEN; 1 for a test that is not there. */
        long valueOf(int clause, int section, int[] words, long[] stack) {
            int to = heads[clause * HEAD + section + 1];
            int depth = 0;
            for (int at = heads[clause * HEAD + section]; at < to; at++) {
                int step = code[at] & (1 << STEP_BITS) - 1;
                int operand = code[at] >> STEP_BITS;
                int asked = step == NUMBER || step == WORD ? 0 : step <= OR ? 1 : 2;
                boolean isWordThere = step != WORD || operand < words.length;
                // No text of the parser's lacks what its steps ask for; an index is looked at all the same.
                int most = asked == 0 ? stack.length - 1 : stack.length;
                if (depth < asked || depth > most || !isWordThere) {
                    return BROKEN;
                }
                if (asked == 0) {
                    stack[depth] = step == NUMBER ? operand : words[operand];
                    depth++;
                } else if (step == NOT) {
                    stack[depth - 1] = 1 - stack[depth - 1];
                } else if (step == AND || step == OR) {
                    // The operand is where the part behind ends: it is asked only if it can matter.
                    if (stack[depth - 1] == (step == OR ? 1 : 0)) {
                        at = operand > at ? operand - 1 : at;
                    } else {
                        depth--;
                    }
                } else {
                    depth--;
                    long left = stack[depth - 1];
                    long right = stack[depth];
                    if (right == 0 && (step == DIVIDED || step == REST)) {
                        return BROKEN;
                    }
                    long value;
                    switch (step) {
                        case PLUS: value = left + right; break;
                        case LESS: value = left - right; break;
                        case TIMES_SIGN: value = left * right; break;
                        case DIVIDED: value = left / right; break;
                        case REST: value = left % right; break;
                        case BELOW: value = left < right ? 1 : 0; break;
                        case ABOVE: value = left > right ? 1 : 0; break;
                        default: value = left == right ? 1 : 0; break;
                    }
                    if (value > HIGHEST || value < -HIGHEST) {
                        return BROKEN;
                    }
                    stack[depth - 1] = value;
                }
            }
            return depth == 0 ? 1 : stack[0];
        }
    }

    /** Reads a tape as a text of either language. */
    private static final class Parser {
        private static final String LAW_WORDS = "act length term binds reader class weekday mood";
        private static final String ORDER_WORDS = "day held done last since voice";
        private static final int SINCE = 4;
        private static final int VOICE = 5;
        private static final int MOST_BRACKETS = 8;
        private static final int HIGHEST_NUMBER = 1000;
        private static final int MOST_TIMES = 20;

        private final Tape tape;
        // A token makes one step at most, so a step for each byte is enough.
        private final int[] code = new int[Tape.ROOM];
        private final int[] heads = new int[Text.MOST_CLAUSES * Text.HEAD];
        private boolean isLaw;
        private int steps;
        private int clauses;
        private int parts;
        private int wordsUsed;
        int faultAt = NONE;

        Parser(Tape tape) {
            this.tape = tape;
        }

        /** The text, or null: then faultAt tells where it can't go on. */
        Text compile(boolean asLaw) {
            isLaw = asLaw;
            steps = 0;
            clauses = 0;
            parts = 0;
            wordsUsed = 0;
            faultAt = NONE;
            tape.rewind();
            boolean goesOn = clause();
            for (int i = 0; i < Text.MOST_CLAUSES && goesOn && tape.isSign(';'); i++) {
                tape.advance();
                goesOn = clause();
            }
            if (goesOn && !tape.isAtEnd()) {
                goesOn = halt();
            }
            if (!goesOn) {
                return null;
            }
            int[] ownHeads = Arrays.copyOf(heads, clauses * Text.HEAD);
            return new Text(Arrays.copyOf(code, steps), ownHeads, clauses, wordsUsed);
        }

        /** The token can't go on here. */
        private boolean halt() {
            faultAt = tape.from;
            return false;
        }

        private boolean clause() {
            if (clauses >= Text.MOST_CLAUSES) {
                return halt();
            }
            int head = clauses * Text.HEAD;
            heads[head + Text.FIRST_SUM] = steps;
            heads[head + Text.TIMES] = 1;
            if (!(isLaw ? lawBody(head) : orderBody(head))) {
                return false;
            }
            heads[head + Text.TEST] = steps;
            if (tape.isWord("if")) {
                tape.advance();
                if (!test(0)) {
                    return false;
                }
            }
            heads[head + Text.SECTIONS] = steps;
            clauses++;
            return true;
        }

        private boolean lawBody(int head) {
            int kind = tape.indexAmong("lasts takes bars");
            if (kind == NONE) {
                return halt();
            }
            heads[head + Text.KIND] = kind;
            tape.advance();
            boolean goesOn = kind == Text.BARS || sum(0);
            heads[head + Text.SECOND_SUM] = steps;
            return goesOn;
        }

        private boolean orderBody(int head) {
            int kind = tape.indexAmong("read wait");
            if (kind == NONE) {
                return halt();
            }
            heads[head + Text.KIND] = kind;
            heads[head + Text.SECOND_SUM] = steps;
            tape.advance();
            if (kind == Text.READ && !whatByWhom(head)) {
                return false;
            }
            return !tape.isWord("times") || timesOf(head);
        }

        private boolean whatByWhom(int head) {
            if (!sum(0)) {
                return false;
            }
            heads[head + Text.SECOND_SUM] = steps;
            if (!tape.isWord("by")) {
                return halt();
            }
            tape.advance();
            return sum(0);
        }

        private boolean timesOf(int head) {
            tape.advance();
            int times = tape.number();
            if (times < 1 || times > MOST_TIMES) {
                return halt();
            }
            heads[head + Text.TIMES] = times;
            tape.advance();
            return true;
        }

        private boolean test(int depth) {
            boolean goesOn = both(depth);
            for (int i = 0; i < Tape.ROOM && goesOn && tape.isWord("or"); i++) {
                int jump = step(Text.OR, 0);
                tape.advance();
                goesOn = both(depth);
                land(jump);
            }
            return goesOn;
        }

        private boolean both(int depth) {
            boolean goesOn = plain(depth);
            for (int i = 0; i < Tape.ROOM && goesOn && tape.isWord("and"); i++) {
                int jump = step(Text.AND, 0);
                tape.advance();
                goesOn = plain(depth);
                land(jump);
            }
            return goesOn;
        }

        private boolean plain(int depth) {
            boolean isTurned = false;
            for (int i = 0; i < Tape.ROOM && tape.isWord("not"); i++) {
                isTurned = !isTurned;
                tape.advance();
            }
            boolean goesOn = tape.isSign('(') ? bracketed(depth, true) : comparison(depth);
            if (goesOn && isTurned) {
                step(Text.NOT, 0);
            }
            return goesOn;
        }

        private boolean comparison(int depth) {
            if (!sum(depth)) {
                return false;
            }
            int kind = tape.isSign('<') ? Text.BELOW : tape.isSign('>') ? Text.ABOVE : Text.ALIKE;
            if (kind == Text.ALIKE && !tape.isSign('=')) {
                return halt();
            }
            tape.advance();
            boolean goesOn = sum(depth);
            step(kind, 0);
            return goesOn;
        }

        private boolean bracketed(int depth, boolean isTest) {
            if (depth >= MOST_BRACKETS) {
                return halt();
            }
            tape.advance();
            if (!(isTest ? test(depth + 1) : sum(depth + 1))) {
                return false;
            }
            if (!tape.isSign(isTest ? ')' : ']')) {
                return halt();
            }
            tape.advance();
            return true;
        }

        private boolean sum(int depth) {
            boolean goesOn = product(depth);
            for (int i = 0; i < Tape.ROOM && goesOn; i++) {
                int kind = tape.isSign('+') ? Text.PLUS : Text.LESS;
                if (kind == Text.LESS && !tape.isSign('-')) {
                    return true;
                }
                tape.advance();
                goesOn = product(depth);
                step(kind, 0);
            }
            return goesOn;
        }

        private boolean product(int depth) {
            boolean goesOn = part(depth);
            for (int i = 0; i < Tape.ROOM && goesOn; i++) {
                int kind = productSign();
                if (kind == NONE) {
                    return true;
                }
                tape.advance();
                goesOn = part(depth);
                step(kind, 0);
            }
            return goesOn;
        }

        private int productSign() {
            if (tape.isSign('*')) {
                return Text.TIMES_SIGN;
            }
            if (tape.isSign('/')) {
                return Text.DIVIDED;
            }
            return tape.isSign('%') ? Text.REST : NONE;
        }

        private boolean part(int depth) {
            if (tape.isSign('[')) {
                return bracketed(depth, false);
            }
            int word = tape.indexAmong(isLaw ? LAW_WORDS : ORDER_WORDS);
            int number = tape.number();
            if (parts >= Text.MOST_PARTS || number > HIGHEST_NUMBER || word == NONE && number == NONE) {
                return halt();
            }
            parts++;
            tape.advance();
            if (word == NONE) {
                step(Text.NUMBER, number);
                return true;
            }
            return isLaw || word < SINCE ? wordStep(word) : numberedWord(word);
        }

        /** "since" A and "voice" R are words 4 to 11 and 12 to 15, one for each A and R. */
        private boolean numberedWord(int word) {
            int number = tape.number();
            int most = word == VOICE ? MOST_READERS : MOST_ACTS;
            if (number < 0 || number >= most) {
                return halt();
            }
            tape.advance();
            return wordStep(word == VOICE ? Orders.VOICE + number : Orders.SINCE + number);
        }

        private boolean wordStep(int word) {
            wordsUsed |= 1 << word;
            step(Text.WORD, word);
            return true;
        }

        private int step(int kind, int operand) {
            if (steps < code.length) {
                code[steps] = operand << Text.STEP_BITS | kind;
                steps++;
            }
            return steps - 1;
        }

        private void land(int jump) {
            if (jump >= 0 && jump < steps) {
                code[jump] = steps << Text.STEP_BITS | code[jump] & (1 << Text.STEP_BITS) - 1;
            }
        }
    }

    /** What the law in force says of readings, which of them can be, and what holds by them. */
    private static final class Court {
        private static final int SEVEN_BITS = 127;
        private static final int TAKES_SHIFT = 7;
        private static final int BARS_SHIFT = 14;

        private final Realm realm;
        private final int[] words = new int[8];
        private final long[] stack = new long[Text.MOST_PARTS];
        // The law knows of a day only its weekday, so its answers are few and kept until all may change.
        private final int[] answers = new int[MOST_ACTS * MOST_READERS * WEEK];
        private final int[] ages = new int[MOST_ACTS * MOST_READERS * WEEK];
        private int age = 1;

        Court(Realm realm) {
            this.realm = realm;
        }

        void forget() {
            age++;
        }

        int lasts(int act, int reader, int day) {
            return answerOf(act, reader, day) & SEVEN_BITS;
        }

        int takes(int act, int reader, int day) {
            return answerOf(act, reader, day) >> TAKES_SHIFT & SEVEN_BITS;
        }

        boolean bars(int act, int reader, int day) {
            return answerOf(act, reader, day) >> BARS_SHIFT != 0;
        }

        private int answerOf(int act, int reader, int day) {
            int place = (act * MOST_READERS + reader) * WEEK + day % WEEK;
            if (ages[place] == age) {
                return answers[place];
            }
            int lasts = realm.trait(act, TERM);
            int takes = realm.trait(act, LENGTH);
            int bars = 0;
            Text text = realm.textInForce();
            if (text != null) {
                words[0] = act;
                words[1] = takes;
                words[2] = lasts;
                words[3] = Integer.bitCount(realm.trait(act, BINDS));
                words[4] = reader;
                words[5] = realm.kinds[reader];
                words[6] = day % WEEK;
                words[7] = realm.terms[MOOD];
                for (int clause = 0; clause < text.clauses; clause++) {
                    int kind = text.headOf(clause, Text.KIND);
                    long isSo = text.valueOf(clause, Text.TEST, words, stack);
                    long told = isSo == 1 && kind != Text.BARS
                            ? text.valueOf(clause, Text.FIRST_SUM, words, stack) : isSo;
                    if (isSo != 1 || told == Text.BROKEN) {
                        continue;
                    }
                    int nearest = (int) Math.max(0, Math.min(LONGEST, told));
                    lasts = kind == Text.LASTS ? nearest : lasts;
                    takes = kind == Text.TAKES ? nearest : takes;
                    bars = kind == Text.BARS ? 1 : bars;
                }
            }
            ages[place] = age;
            answers[place] = lasts | takes << TAKES_SHIFT | bars << BARS_SHIFT;
            return answers[place];
        }

        /** From which day on the act holds no more by its latest reading; 0 if it was not read. */
        int holdsUntil(int act, int day) {
            int latest = realm.latestTold(act, day);
            if (latest == NONE) {
                return 0;
            }
            int toldOn = realm.toldDays[latest];
            return toldOn + (answerOf(act, realm.toldReaders[latest], toldOn) & SEVEN_BITS);
        }

        boolean holds(int act, int day) {
            return day < holdsUntil(act, day);
        }

        int heldBits(int day) {
            int bits = 0;
            for (int act = 0; act < realm.acts; act++) {
                if (day < holdsUntil(act, day)) {
                    bits |= 1 << act;
                }
            }
            return bits;
        }

        int voiceLeft(int reader, int day) {
            int left = realm.voices[reader];
            for (int i = realm.told - 1; i >= 0; i--) {
                if (realm.toldDays[i] == day && realm.toldReaders[i] == reader) {
                    left -= answerOf(realm.toldActs[i], reader, day) >> TAKES_SHIFT & SEVEN_BITS;
                }
            }
            return left;
        }

        /** Not barred, heard, and all of the voice is enough for it. */
        boolean canAlone(int act, int reader, int day) {
            int answer = answerOf(act, reader, day);
            if (answer >> BARS_SHIFT != 0 || !realm.isHeardOn(act, day)) {
                return false;
            }
            return realm.voices[reader] >= (answer >> TAKES_SHIFT & SEVEN_BITS);
        }

        /** All that a reading asks for but what it needs. */
        boolean canButForNeed(int act, int reader, int day) {
            int answer = answerOf(act, reader, day);
            if (answer >> BARS_SHIFT != 0 || !realm.isHeardOn(act, day)) {
                return false;
            }
            int inItsWay = realm.gainsaid[act] | 1 << act;
            if ((realm.actsToldOn(day) & inItsWay) != 0) {
                return false;
            }
            return voiceLeft(reader, day) >= (answer >> TAKES_SHIFT & SEVEN_BITS);
        }

        boolean isNeedHeld(int act, int day) {
            int needs = realm.trait(act, NEEDS);
            return needs == NONE || day < holdsUntil(needs, day);
        }

        boolean can(int act, int reader, int day) {
            return canButForNeed(act, reader, day) && isNeedHeld(act, day);
        }

        /** A reading this day: what is left of the voice, or what it is refused by. */
        int tell(int act, int reader) {
            if (!realm.isAct(act) || !realm.isReader(reader)) {
                return NO_SUCH;
            }
            int today = realm.terms[DAY];
            if (!canButForNeed(act, reader, today) || !isNeedHeld(act, today)) {
                return CANNOT_BE;
            }
            if (realm.told >= MOST_READINGS) {
                return NO_ROOM;
            }
            realm.write(act, reader, today);
            return voiceLeft(reader, today);
        }

        /** The next day: how many acts hold no more, or what it is refused by. */
        int nextDay() {
            int today = realm.terms[DAY];
            if (today >= LAST_DAY) {
                return CANNOT_BE;
            }
            realm.terms[DAY] = today + 1;
            return Integer.bitCount(heldBits(today) & ~heldBits(today + 1));
        }
    }

    /** Runs orders wholly or not at all. */
    private static final class Orders {
        static final int SINCE = 4;
        static final int VOICE = SINCE + MOST_ACTS;

        private final Realm realm;
        private final Court court;
        private final int[] words = new int[VOICE + MOST_READERS];
        private final long[] stack = new long[Text.MOST_PARTS];
        private int done;
        private int last;
        int stoppedAt = NONE;

        Orders(Realm realm, Court court) {
            this.realm = realm;
            this.court = court;
        }

        /** How many were run, or what one was refused by: then all is as it was. */
        int runWholly(Text text) {
            int toldBefore = realm.told;
            int dayBefore = realm.terms[DAY];
            done = 0;
            last = NONE;
            for (int clause = 0; clause < text.clauses; clause++) {
                int times = text.headOf(clause, Text.TIMES);
                for (int i = 0; i < times; i++) {
                    int refusal = runOnce(text, clause);
                    if (refusal != 0) {
                        realm.told = toldBefore;
                        realm.terms[DAY] = dayBefore;
                        stoppedAt = clause;
                        return refusal;
                    }
                }
            }
            return done;
        }

        private int runOnce(Text text, int clause) {
            loadWords(text.wordsUsed);
            if (text.valueOf(clause, Text.TEST, words, stack) != 1) {
                return 0;
            }
            if (text.headOf(clause, Text.KIND) == Text.WAIT) {
                if (court.nextDay() < 0) {
                    return CANNOT_BE;
                }
            } else {
                long act = text.valueOf(clause, Text.FIRST_SUM, words, stack);
                long reader = text.valueOf(clause, Text.SECOND_SUM, words, stack);
                if (act == Text.BROKEN || reader == Text.BROKEN) {
                    return CANNOT_BE;
                }
                int answer = court.tell((int) act, (int) reader);
                if (answer < 0) {
                    return answer == NO_ROOM ? NO_ROOM : CANNOT_BE;
                }
                last = (int) act;
            }
            done++;
            return 0;
        }

        private void loadWords(int used) {
            int today = realm.terms[DAY];
            words[0] = today;
            words[1] = (used >> 1 & 1) != 0 ? Integer.bitCount(court.heldBits(today)) : 0;
            words[2] = done;
            words[3] = last;
            for (int act = 0; act < MOST_ACTS; act++) {
                if ((used >> SINCE + act & 1) != 0) {
                    words[SINCE + act] = realm.daysSince(act, today);
                }
            }
            for (int reader = 0; reader < MOST_READERS; reader++) {
                if ((used >> VOICE + reader & 1) != 0) {
                    words[VOICE + reader] = realm.isReader(reader) ? court.voiceLeft(reader, today) : NONE;
                }
            }
        }
    }

    /** Mornings to come, on paper: for one reader alone, and as a game of two. */
    private static final class Mornings {
        private static final int BEYOND = 99;

        private final Realm realm;
        private final Court court;
        private final int[] until = new int[MOST_ACTS];
        private final int[] open = new int[MOST_MORNINGS];
        private final int[] lasts = new int[MOST_MORNINGS * MOST_ACTS];
        private final int[] row = new int[MOST_MORNINGS];
        final int[] bestRow = new int[MOST_MORNINGS];
        int opening;
        private int mine;
        private int theirs;
        private int mornings;
        private int today;
        private int needed;
        private int fewest;

        Mornings(Realm realm, Court court) {
            this.realm = realm;
            this.court = court;
        }

        /** The fewest readings, NONE if it can't be; bestRow has the first of such rows. */
        int fewestReadings(int mineBits, int theirBits, int reader, int n) {
            if ((mineBits & theirBits) != 0) {
                return NONE;
            }
            prepare(mineBits, theirBits, n);
            for (int morning = 0; morning < n; morning++) {
                lookAhead(morning, reader);
            }
            findNeeded();
            fewest = n + 1;
            seek(0, 0);
            return fewest > n ? NONE : fewest;
        }

        /** How many more of mine than of theirs hold in the end; opening has the first move. */
        int playOut(int mineBits, int theirBits, int first, int other, int n) {
            prepare(mineBits, theirBits, n);
            for (int morning = 0; morning < n; morning++) {
                lookAhead(morning, morning % 2 == 0 ? first : other);
            }
            return play(0, -BEYOND, BEYOND);
        }

        private void prepare(int mineBits, int theirBits, int n) {
            mine = mineBits;
            theirs = theirBits;
            mornings = n;
            today = realm.terms[DAY];
            for (int act = 0; act < realm.acts; act++) {
                until[act] = court.holdsUntil(act, today);
            }
        }

        private void lookAhead(int morning, int reader) {
            int day = today + morning;
            open[morning] = 0;
            for (int act = 0; act < realm.acts; act++) {
                if (court.canButForNeed(act, reader, day)) {
                    open[morning] |= 1 << act;
                }
                lasts[morning * MOST_ACTS + act] = court.lasts(act, reader, day);
            }
        }

        /** Acts that those which matter need, straight away or by way of others. */
        private void findNeeded() {
            needed = 0;
            for (int round = 0; round < realm.acts; round++) {
                for (int act = 0; act < realm.acts; act++) {
                    int need = realm.trait(act, NEEDS);
                    if (need != NONE && ((mine | theirs | needed) >> act & 1) != 0) {
                        needed |= 1 << need;
                    }
                }
            }
        }

        private boolean canRead(int morning, int act) {
            if ((open[morning] >> act & 1) == 0) {
                return false;
            }
            int need = realm.trait(act, NEEDS);
            return need == NONE || today + morning < until[need];
        }

        private int heldInTheEnd() {
            int bits = 0;
            for (int act = 0; act < realm.acts; act++) {
                if (today + mornings < until[act]) {
                    bits |= 1 << act;
                }
            }
            return bits;
        }

        /**
         * Tries rows in their order. A reading is of use only if its act would be wrong in the end as it
         * stands, or if others need it and it doesn't hold to the end anyway: without any other reading
         * the row would serve as well, so it has no place in a row of the fewest.
         */
        private void seek(int morning, int readings) {
            int heldThen = heldInTheEnd();
            int wrong = mine & ~heldThen | theirs & heldThen;
            int missing = Integer.bitCount(wrong);
            if (missing > mornings - morning || readings + missing >= fewest) {
                return;
            }
            if (morning >= mornings) {
                fewest = readings;
                System.arraycopy(row, 0, bestRow, 0, mornings);
                return;
            }
            int useful = wrong | needed & ~heldThen;
            for (int act = 0; act < realm.acts; act++) {
                if ((useful >> act & 1) != 0 && canRead(morning, act)) {
                    int was = until[act];
                    until[act] = today + morning + lasts[morning * MOST_ACTS + act];
                    row[morning] = act;
                    seek(morning + 1, readings + 1);
                    until[act] = was;
                }
            }
            row[morning] = NOTHING_READ;
            seek(morning + 1, readings);
        }

        /** What the game comes to from here, as far as it lies between low and high. */
        private int play(int morning, int low, int high) {
            if (morning >= mornings) {
                int heldThen = heldInTheEnd();
                return Integer.bitCount(heldThen & mine) - Integer.bitCount(heldThen & theirs);
            }
            boolean wantsMore = morning % 2 == 0;
            int best = wantsMore ? -BEYOND : BEYOND;
            for (int act = 0; act <= realm.acts && low < high; act++) {
                boolean reads = act < realm.acts;
                if (reads && !canRead(morning, act)) {
                    continue;
                }
                int came = playMove(morning, reads ? act : NONE, low, high);
                if (wantsMore ? came > best : came < best) {
                    best = came;
                    if (morning == 0) {
                        opening = reads ? act : NOTHING_READ;
                    }
                }
                low = wantsMore ? Math.max(low, best) : low;
                high = wantsMore ? high : Math.min(high, best);
            }
            return best;
        }

        private int playMove(int morning, int act, int low, int high) {
            if (act == NONE) {
                return play(morning + 1, low, high);
            }
            int was = until[act];
            until[act] = today + morning + lasts[morning * MOST_ACTS + act];
            int came = play(morning + 1, low, high);
            until[act] = was;
            return came;
        }
    }

    /** Acts shared out among readers and among days, and those that nobody can read any more. */
    private static final class Sharing {
        private static final int TOO_DEAR = LOUDEST + 1;

        private final Realm realm;
        private final Court court;
        private final int[] toldActs = new int[MOST_ACTS];
        final int[] dayOfTold = new int[MOST_ACTS];
        private final int[] room = new int[MOST_READERS];
        private final int[] cost = new int[MOST_ACTS * MOST_READERS];
        private int told;

        Sharing(Realm realm, Court court) {
            this.realm = realm;
            this.court = court;
        }

        private void list(int bits) {
            told = 0;
            for (int act = 0; act < realm.acts; act++) {
                if ((bits >> act & 1) != 0) {
                    toldActs[told] = act;
                    told++;
                }
            }
        }

        /** The fewest readers, and of those the lowest, as bits; NONE if it can't be. */
        int fewestReaders(int bits) {
            list(bits);
            for (int i = 0; i < told; i++) {
                if ((realm.gainsaid[toldActs[i]] & bits) != 0 || !hasReader(i)) {
                    return NONE;
                }
            }
            for (int size = 1; size <= realm.readers; size++) {
                for (int readers = 1; readers < 1 << realm.readers; readers++) {
                    if (Integer.bitCount(readers) == size && canShare(readers)) {
                        return readers;
                    }
                }
            }
            return NONE;
        }

        /** Whether anybody can read the i-th told act at all; cost has what it takes by whom. */
        private boolean hasReader(int i) {
            int today = realm.terms[DAY];
            boolean has = false;
            for (int reader = 0; reader < realm.readers; reader++) {
                boolean isBarred = court.bars(toldActs[i], reader, today);
                int takes = isBarred ? TOO_DEAR : court.takes(toldActs[i], reader, today);
                cost[i * MOST_READERS + reader] = takes;
                has = has || takes <= realm.voices[reader];
            }
            return has;
        }

        private boolean canShare(int readers) {
            for (int reader = 0; reader < realm.readers; reader++) {
                room[reader] = (readers >> reader & 1) != 0 ? realm.voices[reader] : NONE;
            }
            return shareFrom(0);
        }

        private boolean shareFrom(int i) {
            if (i >= told) {
                return true;
            }
            for (int reader = 0; reader < realm.readers; reader++) {
                int takes = cost[i * MOST_READERS + reader];
                if (room[reader] < takes) {
                    continue;
                }
                room[reader] -= takes;
                boolean done = shareFrom(i + 1);
                room[reader] += takes;
                if (done) {
                    return true;
                }
            }
            return false;
        }

        /** The fewest days; dayOfTold has the first of such rows. */
        int fewestDays(int bits) {
            list(bits);
            for (int most = 1; most < told; most++) {
                if (spreadFrom(0, most)) {
                    return most;
                }
            }
            spreadFrom(0, told);
            return told;
        }

        private boolean spreadFrom(int i, int most) {
            if (i >= told) {
                return true;
            }
            // A row's first days come in their order: i acts can't have used a day beyond i.
            for (int day = 0; day < most && day <= i; day++) {
                dayOfTold[i] = day;
                if (isQuiet(i) && spreadFrom(i + 1, most)) {
                    return true;
                }
            }
            return false;
        }

        private boolean isQuiet(int i) {
            for (int j = 0; j < i; j++) {
                boolean gainsaid = (realm.gainsaid[toldActs[i]] >> toldActs[j] & 1) != 0;
                if (gainsaid && dayOfTold[j] == dayOfTold[i]) {
                    return false;
                }
            }
            return true;
        }

        int deadBits() {
            int speakable = 0;
            for (int act = 0; act < realm.acts; act++) {
                if (isSpeakable(act)) {
                    speakable |= 1 << act;
                }
            }
            int alive = court.heldBits(realm.terms[DAY]);
            for (int round = 0; round < realm.acts; round++) {
                for (int act = 0; act < realm.acts; act++) {
                    int needs = realm.trait(act, NEEDS);
                    if ((speakable >> act & 1) != 0 && (needs == NONE || (alive >> needs & 1) != 0)) {
                        alive |= 1 << act;
                    }
                }
            }
            return (1 << realm.acts) - 1 & ~alive;
        }

        private boolean isSpeakable(int act) {
            for (int reader = 0; reader < realm.readers; reader++) {
                for (int weekday = 0; weekday < WEEK; weekday++) {
                    if (court.canAlone(act, reader, weekday)) {
                        return true;
                    }
                }
            }
            return false;
        }
    }

    /** How likely an act goes on holding, and what fines tell. */
    private static final class Outlook {
        private static final long ALL_PARTS = 1000000000000L;
        private static final int TENTHS = 10;
        private static final int LATEST_DAYS = 30;

        private final Realm realm;
        private final Court court;
        private final long[] parts = new long[LONGEST + 1];
        private final boolean[] isSo = new boolean[MOST_FINES];
        private final int[] sinceDay = new int[MOST_FINES];

        Outlook(Realm realm, Court court) {
            this.realm = realm;
            this.court = court;
        }

        /** The parts stand by how many days, this one too, the act would go on holding. */
        long chances(int act, int reader, int n) {
            int today = realm.terms[DAY];
            Arrays.fill(parts, 0);
            int left = today == 0 ? 0 : court.holdsUntil(act, today - 1) - today;
            parts[Math.max(0, Math.min(LONGEST, left))] = ALL_PARTS;
            for (int day = today; day <= today + n; day++) {
                if (court.canAlone(act, reader, day)) {
                    tryReading(act, reader, day);
                }
                // What does not hold this day goes out, and the rest has a day less.
                for (int i = 0; i < LONGEST; i++) {
                    parts[i] = parts[i + 1];
                }
                parts[LONGEST] = 0;
            }
            long all = 0;
            for (int i = 0; i <= LONGEST; i++) {
                all += parts[i];
            }
            return all;
        }

        private void tryReading(int act, int reader, int day) {
            boolean canBeWet = court.takes(act, reader, day) > realm.terms[DRY];
            int wet = canBeWet ? realm.terms[RAIN] : 0;
            long read = 0;
            for (int i = 0; i <= LONGEST; i++) {
                read += parts[i] * (TENTHS - wet) / TENTHS;
                parts[i] = parts[i] * wet / TENTHS;
            }
            parts[Math.min(LONGEST, court.lasts(act, reader, day))] += read;
        }

        private void lookAtFines() {
            for (int i = 0; i < realm.fines; i++) {
                int act = realm.fineActs[i];
                int day = realm.fineDays[i];
                boolean isBound = binds(i) && court.holds(act, day);
                isSo[i] = isBound == (realm.fineIs[i] == 1);
                int latest = realm.latestTold(act, day);
                sinceDay[i] = latest == NONE ? NONE : realm.toldDays[latest];
            }
        }

        private boolean binds(int fine) {
            return (realm.trait(realm.fineActs[fine], BINDS) >> realm.fineKinds[fine] & 1) != 0;
        }

        boolean areFinesSo() {
            lookAtFines();
            for (int i = 0; i < realm.fines; i++) {
                if (!isSo[i]) {
                    return false;
                }
            }
            return true;
        }

        /** How many readings would make all fines so (wanted NONE), or a wanted one of them. */
        int unwrittenReading(int wanted) {
            lookAtFines();
            int found = 0;
            int today = realm.terms[DAY];
            for (int ago = 0; ago < LATEST_DAYS && ago <= today; ago++) {
                for (int reader = 0; reader < realm.readers; reader++) {
                    for (int act = 0; act < realm.acts; act++) {
                        if (!wouldMakeSo(act, reader, today - ago)) {
                            continue;
                        }
                        if (found == wanted) {
                            return ago * 32 + reader * 8 + act;
                        }
                        found++;
                    }
                }
            }
            return wanted == NONE ? found : NONE;
        }

        private boolean wouldMakeSo(int act, int reader, int day) {
            for (int i = 0; i < realm.fines; i++) {
                int fineDay = realm.fineDays[i];
                boolean counts = realm.fineActs[i] == act && day <= fineDay && day >= sinceDay[i];
                boolean would = isSo[i];
                if (counts) {
                    boolean isBound = binds(i) && fineDay - day < court.lasts(act, reader, day);
                    would = isBound == (realm.fineIs[i] == 1);
                }
                if (!would) {
                    return false;
                }
            }
            return true;
        }
    }

    /** Years by draws, written behind the log and wiped out again. */
    private static final class Years {
        private final Realm realm;
        private final Court court;
        int acts;
        final int[] readings = new int[MOST_ACTS];
        final int[] heldDays = new int[MOST_ACTS];
        private int seed;

        Years(Realm realm, Court court) {
            this.realm = realm;
            this.court = court;
        }

        int live(int firstSeed, int n) {
            int toldBefore = realm.told;
            int today = realm.terms[DAY];
            seed = firstSeed;
            acts = realm.acts;
            Arrays.fill(readings, 0);
            Arrays.fill(heldDays, 0);
            for (int day = today; day < today + n && day <= LAST_DAY; day++) {
                boolean rains = draw(10) < realm.terms[RAIN];
                int act = draw(realm.acts);
                int reader = draw(realm.readers);
                boolean isWashedOut = rains && court.takes(act, reader, day) > realm.terms[DRY];
                if (!isWashedOut && court.can(act, reader, day)) {
                    realm.write(act, reader, day);
                    readings[act]++;
                }
                int held = court.heldBits(day);
                for (int i = 0; i < acts; i++) {
                    heldDays[i] += held >> i & 1;
                }
            }
            int all = realm.told - toldBefore;
            realm.told = toldBefore;
            return all;
        }

        private int draw(int m) {
            seed = (seed * 1103 + 12345) % 1000003;
            return m > 0 ? seed % m : 0;
        }
    }
}
