import java.util.ArrayList;
import java.util.HashSet;
import java.util.List;
import java.util.Map;
import java.util.Set;
import java.util.TreeMap;

/**
 * The document once more, in the plainest way there is: nothing is kept that can be worked out, and all that is
 * sought is sought by trying everything. FuzzTest holds the class against it.
 */
final class PlainActs {
    static final int NONE = -1;
    static final int NOTHING = -1000;

    record Act(int length, int term, int binds, int needs) { }
    record Reader(int voice, int kind) { }
    record Reading(int act, int reader, int day) { }
    record Fine(int day, int kind, int act, int is) { }

    /** A clause of either language. */
    static final class Clause {
        String kind;
        Sum first;
        Sum second;
        Test test;
        int times = 1;
    }

    interface Sum { long of(Words words) throws Broken; }
    interface Test { boolean of(Words words) throws Broken; }
    interface Words { long of(String word, int number); }

    static final class Broken extends Exception { }
    static final class Fault extends Exception {
        final int at;
        Fault(int at) { this.at = at; }
    }
    static final class Refused extends Exception {
        final int why;
        Refused(int why) { this.why = why; }
    }

    /** All that images keep. */
    static final class State {
        List<Act> acts = new ArrayList<>();
        Set<List<Integer>> gainsay = new HashSet<>();
        List<Reader> readers = new ArrayList<>();
        int[] listeners = {63, 63, 63, 63, 63, 63, 63};
        List<Reading> log = new ArrayList<>();
        List<Fine> fines = new ArrayList<>();
        List<List<Clause>> laws = new ArrayList<>();
        int force = NONE;
        int[] terms = {0, 3, 20, 0};

        State copy() {
            State s = new State();
            s.acts.addAll(acts);
            s.gainsay.addAll(gainsay);
            s.readers.addAll(readers);
            s.listeners = listeners.clone();
            s.log.addAll(log);
            s.fines.addAll(fines);
            s.laws.addAll(laws);
            s.force = force;
            s.terms = terms.clone();
            return s;
        }
    }

    State s = new State();
    State[] images = new State[2];
    List<Integer> tape = new ArrayList<>();
    int mud = 0;
    int fault = NONE;
    int stopped = NONE;
    int status = 0;
    int[] refusals = new int[7];
    int[][] years = new int[0][];

    // ---- what the law says, what holds, what can be

    long lawWord(String word, int act, int reader, int day) {
        Act a = s.acts.get(act);
        return switch (word) {
            case "act" -> act;
            case "length" -> a.length;
            case "term" -> a.term;
            case "binds" -> Integer.bitCount(a.binds);
            case "reader" -> reader;
            case "class" -> s.readers.get(reader).kind;
            case "weekday" -> day % 7;
            case "mood" -> s.terms[3];
            default -> throw new IllegalStateException(word);
        };
    }

    int clauses(String kind, int act, int reader, int day, int without) {
        int answer = without;
        if (s.force == NONE) return answer;
        Words words = (word, number) -> lawWord(word, act, reader, day);
        for (Clause c : s.laws.get(s.force)) {
            if (!c.kind.equals(kind)) continue;
            try {
                if (c.test != null && !c.test.of(words)) continue;
                if (c.first == null) answer = 1;
                else answer = (int) Math.max(0, Math.min(99, c.first.of(words)));
            } catch (Broken e) {
                continue;
            }
        }
        return answer;
    }

    int lasts(int act, int reader, int day) { return clauses("lasts", act, reader, day, s.acts.get(act).term); }
    int takes(int act, int reader, int day) { return clauses("takes", act, reader, day, s.acts.get(act).length); }
    boolean barred(int act, int reader, int day) { return clauses("bars", act, reader, day, 0) == 1; }

    Reading latest(int act, int day) {
        Reading best = null;
        for (Reading r : s.log) {
            if (r.act == act && r.day <= day && (best == null || r.day >= best.day)) best = r;
        }
        return best;
    }

    boolean holds(int act, int day) {
        Reading r = latest(act, day);
        return r != null && day - r.day < lasts(act, r.reader, r.day);
    }

    int held(int day) {
        if (day < 0 || day > 999) return NONE;
        return heldOn(day);
    }

    int heldOn(int day) {
        int bits = 0;
        for (int a = 0; a < s.acts.size(); a++) if (holds(a, day)) bits += 1 << a;
        return bits;
    }

    int left(int reader, int day) {
        int left = s.readers.get(reader).voice;
        for (Reading r : s.log) if (r.day == day && r.reader == reader) left -= takes(r.act, reader, day);
        return left;
    }

    boolean listens(int act, int day) { return (s.acts.get(act).binds & s.listeners[day % 7]) != 0; }

    boolean gainsaid(int a, int b) { return s.gainsay.contains(List.of(Math.min(a, b), Math.max(a, b))); }

    boolean can(int act, int reader, int day) {
        if (barred(act, reader, day)) return false;
        for (Reading r : s.log) {
            if (r.day == day && (r.act == act || gainsaid(r.act, act))) return false;
        }
        int needs = s.acts.get(act).needs;
        if (needs != NONE && !holds(needs, day)) return false;
        if (!listens(act, day)) return false;
        return left(reader, day) - takes(act, reader, day) >= 0;
    }

    // ---- calls that are refused or not

    boolean isAct(int a) { return a >= 0 && a < s.acts.size(); }
    boolean isReader(int r) { return r >= 0 && r < s.readers.size(); }
    boolean areActs(int bits) { return bits >> s.acts.size() == 0; }

    void only(boolean so, int why) throws Refused {
        if (!so) throw new Refused(why);
    }

    interface Call { int go() throws Refused; }

    int call(Call c) {
        try {
            int answer = c.go();
            status = 0;
            return answer;
        } catch (Refused e) {
            status = e.why;
            refusals[-e.why]++;
            return e.why;
        }
    }

    static boolean in(int low, int n, int high) { return low <= n && n <= high; }

    int act(int length, int term, int binds) {
        return call(() -> {
            only(in(1, length, 60) && in(1, term, 30) && in(1, binds, 63), -1);
            only(s.acts.size() < 8, -5);
            s.acts.add(new Act(length, term, binds, NONE));
            return s.acts.size() - 1;
        });
    }

    int put(int act, int what, int value) {
        return call(() -> {
            only(in(0, what, 3), -1);
            if (what == 0) only(in(1, value, 60), -1);
            if (what == 1) only(in(1, value, 30), -1);
            if (what == 2) only(in(1, value, 63), -1);
            if (what == 3) only(value != act, -1);
            if (what == 3) only(value >= NONE, -1);
            only(isAct(act), -2);
            if (what == 3) only(value == NONE || isAct(value), -2);
            int was = of(act, what);
            Act a = s.acts.get(act);
            s.acts.set(act, new Act(what == 0 ? value : a.length, what == 1 ? value : a.term,
                    what == 2 ? value : a.binds, what == 3 ? value : a.needs));
            return was;
        });
    }

    int of(int act, int what) {
        if (!isAct(act)) return NONE;
        Act a = s.acts.get(act);
        Reading r = latest(act, s.terms[0]);
        return switch (what) {
            case 0 -> a.length;
            case 1 -> a.term;
            case 2 -> a.binds;
            case 3 -> a.needs;
            case 4 -> r == null ? NONE : s.terms[0] - r.day;
            case 5 -> holds(act, s.terms[0]) ? 1 : 0;
            default -> NONE;
        };
    }

    int gainsay(int one, int other, int is) {
        return call(() -> {
            only(one != other && in(0, is, 1), -1);
            only(isAct(one) && isAct(other), -2);
            List<Integer> pair = List.of(Math.min(one, other), Math.max(one, other));
            int was = s.gainsay.contains(pair) ? 1 : 0;
            if (is == 1) s.gainsay.add(pair); else s.gainsay.remove(pair);
            return was;
        });
    }

    int reader(int voice, int kind) {
        return call(() -> {
            only(in(1, voice, 99) && in(0, kind, 5), -1);
            only(s.readers.size() < 4, -5);
            s.readers.add(new Reader(voice, kind));
            return s.readers.size() - 1;
        });
    }

    int throat(int reader, int what) {
        if (!isReader(reader)) return NONE;
        return switch (what) {
            case 0 -> s.readers.get(reader).voice;
            case 1 -> s.readers.get(reader).kind;
            case 2 -> left(reader, s.terms[0]);
            default -> NONE;
        };
    }

    int listen(int weekday, int kinds) {
        return call(() -> {
            only(in(0, weekday, 6) && in(0, kinds, 63), -1);
            int was = s.listeners[weekday];
            s.listeners[weekday] = kinds;
            return was;
        });
    }

    int terms(int what, int value) {
        return call(() -> {
            only(in(0, what, 3), -1);
            only(in(what == 2 ? 1 : 0, value, new int[] {999, 10, 60, 9}[what]), -1);
            if (what == 0) for (Reading r : s.log) only(value >= r.day, -3);
            int was = s.terms[what];
            s.terms[what] = value;
            return was;
        });
    }

    int feed(int... numbers) {
        if (tape.size() + 20 > 400) return NONE;
        for (int n : numbers) {
            tape.add(n >> 24 & 255);
            tape.add(n >> 16 & 255);
            tape.add(n >> 8 & 255);
            tape.add(n & 255);
        }
        return tape.size();
    }

    int end(int n) {
        if (n < 0 || n > tape.size()) return NONE;
        tape = new ArrayList<>(tape.subList(0, n));
        return n;
    }

    int row() {
        return call(() -> {
            only(!tape.isEmpty(), -6);
            int came = 0;
            mud = 0;
            while (!tape.isEmpty()) {
                List<Integer> four = tape.subList(0, Math.min(4, tape.size()));
                boolean good = four.size() == 4 && s.acts.size() < 8 && in(1, four.get(0), 60)
                        && in(1, four.get(1), 30) && in(1, four.get(2), 63) && four.get(3) <= s.acts.size();
                if (good) {
                    came++;
                    s.acts.add(new Act(four.get(0), four.get(1), four.get(2), four.get(3) - 1));
                } else {
                    mud++;
                }
                four.clear();
            }
            return came;
        });
    }

    int law() {
        return call(() -> {
            List<Integer> text = tape;
            tape = new ArrayList<>();
            only(s.laws.size() < 6, -5);
            List<Clause> law = parse(text, true);
            only(law != null, -6);
            s.laws.add(law);
            return s.laws.size() - 1;
        });
    }

    int orders() {
        return call(() -> {
            List<Integer> text = tape;
            tape = new ArrayList<>();
            stopped = NONE;
            List<Clause> clauses = parse(text, false);
            only(clauses != null, -6);
            State before = s.copy();
            int[] run = {0, NONE};
            for (int i = 0; i < clauses.size(); i++) {
                try {
                    for (int t = 0; t < clauses.get(i).times; t++) order(clauses.get(i), run);
                } catch (Refused e) {
                    s = before;
                    stopped = i;
                    throw new Refused(e.why == -5 ? -5 : -3);
                }
            }
            return run[0];
        });
    }

    /** run: how many were run, the act read latest. */
    void order(Clause c, int[] run) throws Refused {
        Words words = (word, number) -> switch (word) {
            case "day" -> s.terms[0];
            case "held" -> Integer.bitCount(heldOn(s.terms[0]));
            case "done" -> run[0];
            case "last" -> run[1];
            case "since" -> of(number, 4);
            case "voice" -> throat(number, 2);
            default -> throw new IllegalStateException(word);
        };
        try {
            if (c.test != null && !c.test.of(words)) return;
        } catch (Broken e) {
            return;
        }
        if (c.kind.equals("wait")) {
            goOn();
        } else {
            try {
                int act = (int) c.first.of(words);
                int reader = (int) c.second.of(words);
                tell(act, reader);
                run[1] = act;
            } catch (Broken e) {
                throw new Refused(-3);
            }
        }
        run[0]++;
    }

    int tell(int act, int reader) throws Refused {
        only(isAct(act) && isReader(reader), -2);
        only(can(act, reader, s.terms[0]), -3);
        only(s.log.size() < 24, -5);
        s.log.add(new Reading(act, reader, s.terms[0]));
        return left(reader, s.terms[0]);
    }

    int goOn() throws Refused {
        only(s.terms[0] < 999, -3);
        int was = heldOn(s.terms[0]);
        s.terms[0]++;
        int gone = 0;
        for (int a = 0; a < s.acts.size(); a++) if ((was >> a) % 2 == 1 && !holds(a, s.terms[0])) gone++;
        return gone;
    }

    int force(int law) {
        return call(() -> {
            only(law == NONE || law >= 0 && law < s.laws.size(), -2);
            int was = s.force;
            s.force = law;
            return was;
        });
    }

    int asks(int act, int reader, int what) {
        if (!isAct(act) || !isReader(reader)) return NONE;
        int day = s.terms[0];
        return switch (what) {
            case 0 -> lasts(act, reader, day);
            case 1 -> takes(act, reader, day);
            case 2 -> barred(act, reader, day) ? 1 : 0;
            case 3 -> can(act, reader, day) ? 1 : 0;
            default -> NONE;
        };
    }

    int read(int act, int reader) { return call(() -> tell(act, reader)); }

    int undo() {
        return call(() -> {
            only(!s.log.isEmpty(), -3);
            return s.log.remove(s.log.size() - 1).act;
        });
    }

    int log(int i, int what) {
        if (i < 0 || i >= s.log.size()) return NONE;
        Reading r = s.log.get(i);
        return switch (what) {
            case 0 -> r.act;
            case 1 -> r.reader;
            case 2 -> r.day;
            case 3 -> lasts(r.act, r.reader, r.day);
            default -> NONE;
        };
    }

    int await() { return call(this::goOn); }

    boolean bindsOn(int kind, int act, int day) { return holds(act, day) && (s.acts.get(act).binds >> kind) % 2 == 1; }

    int bound(int kind, int day) {
        if (!in(0, kind, 5) || !in(0, day, 999)) return NONE;
        int bits = 0;
        for (int a = 0; a < s.acts.size(); a++) if (bindsOn(kind, a, day)) bits += 1 << a;
        return bits;
    }

    // ---- what is on paper

    int[] bestRow;
    int bestCount;

    int mornings(int mine, int theirs, int reader, int n, int i) {
        if (!areActs(mine) || !areActs(theirs) || !isReader(reader) || !in(1, n, 5) || !in(-1, i, n - 1)) return NONE;
        bestRow = null;
        morning(mine, theirs, reader, new int[n], 0);
        if (bestRow == null) return NONE;
        return i == NONE ? bestCount : bestRow[i];
    }

    void morning(int mine, int theirs, int reader, int[] row, int k) {
        if (k == row.length) {
            int held = heldOn(s.terms[0] + k);
            if ((held & mine) != mine || (held & theirs) != 0) return;
            int count = 0;
            for (int a : row) if (a != 100) count++;
            if (bestRow == null || count < bestCount) {
                bestRow = row.clone();
                bestCount = count;
            }
            return;
        }
        int day = s.terms[0] + k;
        for (int a = 0; a < s.acts.size(); a++) {
            if (!can(a, reader, day)) continue;
            s.log.add(new Reading(a, reader, day));
            row[k] = a;
            morning(mine, theirs, reader, row, k + 1);
            s.log.remove(s.log.size() - 1);
        }
        row[k] = 100;
        morning(mine, theirs, reader, row, k + 1);
    }

    int game(int mine, int theirs, int first, int other, int n, int what) {
        if (!areActs(mine) || !areActs(theirs) || !isReader(first) || !isReader(other) || first == other) return NOTHING;
        if (!in(1, n, 4) || !in(0, what, 1)) return NOTHING;
        return turn(mine, theirs, first, other, n, 0)[what];
    }

    int[] turn(int mine, int theirs, int first, int other, int n, int k) {
        int day = s.terms[0] + k;
        if (k == n) {
            int held = heldOn(day);
            return new int[] {Integer.bitCount(held & mine) - Integer.bitCount(held & theirs), 0};
        }
        int reader = k % 2 == 0 ? first : other;
        int[] best = null;
        for (int a = 0; a <= s.acts.size(); a++) {
            boolean none = a == s.acts.size();
            if (!none && !can(a, reader, day)) continue;
            if (!none) s.log.add(new Reading(a, reader, day));
            int value = turn(mine, theirs, first, other, n, k + 1)[0];
            if (!none) s.log.remove(s.log.size() - 1);
            if (best == null || (k % 2 == 0 ? value > best[0] : value < best[0])) best = new int[] {value, none ? 100 : a};
        }
        return best;
    }

    boolean canEver(int act, Set<Integer> asked) {
        if (!asked.add(act)) return false;
        boolean spoken = false;
        for (int r = 0; r < s.readers.size(); r++) {
            for (int w = 0; w < 7; w++) {
                if (!barred(act, r, w) && listens(act, w) && takes(act, r, w) <= s.readers.get(r).voice) spoken = true;
            }
        }
        int needs = s.acts.get(act).needs;
        return spoken && (needs == NONE || holds(needs, s.terms[0]) || canEver(needs, asked));
    }

    int dead() {
        int bits = 0;
        for (int a = 0; a < s.acts.size(); a++) {
            if (!holds(a, s.terms[0]) && !canEver(a, new HashSet<>())) bits += 1 << a;
        }
        return bits;
    }

    List<Integer> listed(int bits) {
        List<Integer> acts = new ArrayList<>();
        for (int a = 0; a < 8; a++) if ((bits >> a) % 2 == 1) acts.add(a);
        return acts;
    }

    int throats(int bits, int what) {
        if (!areActs(bits) || bits == 0 || !in(0, what, 1)) return NONE;
        List<Integer> acts = listed(bits);
        for (int a : acts) for (int b : acts) if (a != b && gainsaid(a, b)) return NONE;
        int readers = s.readers.size();
        int best = NONE;
        long ways = 1;
        for (int i = 0; i < acts.size(); i++) ways *= readers;
        for (long way = 0; way < ways; way++) {
            int[] taken = new int[4];
            int used = 0;
            boolean good = true;
            long w = way;
            for (int a : acts) {
                int r = (int) (w % readers);
                w /= readers;
                used |= 1 << r;
                taken[r] += takes(a, r, s.terms[0]);
                if (barred(a, r, s.terms[0]) || taken[r] > s.readers.get(r).voice) {
                    good = false;
                    break;
                }
            }
            if (!good) continue;
            int size = Integer.bitCount(used);
            if (best == NONE || size < Integer.bitCount(best) || size == Integer.bitCount(best) && used < best) best = used;
        }
        return best == NONE ? NONE : what == 0 ? Integer.bitCount(best) : best;
    }

    int days(int bits, int i) {
        if (!areActs(bits) || bits == 0) return NONE;
        List<Integer> acts = listed(bits);
        if (i < NONE || i >= acts.size()) return NONE;
        for (int k = 1; ; k++) {
            int[] row = new int[acts.size()];
            if (spread(acts, row, 0, k)) return i == NONE ? k : row[i];
        }
    }

    boolean spread(List<Integer> acts, int[] row, int at, int k) {
        if (at == row.length) {
            for (int i = 0; i < at; i++) {
                for (int j = 0; j < i; j++) if (row[i] == row[j] && gainsaid(acts.get(i), acts.get(j))) return false;
            }
            return true;
        }
        for (row[at] = 0; row[at] < k; row[at]++) if (spread(acts, row, at + 1, k)) return true;
        return false;
    }

    long likely(int act, int reader, int n) {
        if (!isAct(act) || !isReader(reader) || !in(0, n, 60)) return NONE;
        int today = s.terms[0];
        Reading before = latest(act, today - 1);
        Map<Integer, Long> partsByEnd = new TreeMap<>();
        partsByEnd.put(before == null ? 0 : before.day + lasts(act, before.reader, before.day), 1_000_000_000_000L);
        for (int day = today; day <= today + n; day++) {
            boolean can = !barred(act, reader, day) && listens(act, day)
                    && takes(act, reader, day) <= s.readers.get(reader).voice;
            boolean wet = takes(act, reader, day) > s.terms[2];
            Map<Integer, Long> next = new TreeMap<>();
            // An end that is past is the same as no reading at all.
            Map<Integer, Long> merged = new TreeMap<>();
            for (Map.Entry<Integer, Long> e : partsByEnd.entrySet()) {
                merged.merge(e.getKey() <= day ? 0 : e.getKey(), e.getValue(), Long::sum);
            }
            for (Map.Entry<Integer, Long> e : merged.entrySet()) {
                long p = e.getValue();
                long dry = !can ? 0 : wet ? p * (10 - s.terms[1]) / 10 : p;
                long not = !can ? p : wet ? p * s.terms[1] / 10 : 0;
                next.merge(day + lasts(act, reader, day), dry, Long::sum);
                next.merge(e.getKey(), not, Long::sum);
            }
            int now = day;
            next.keySet().removeIf(end -> end <= now);
            partsByEnd = next;
        }
        return partsByEnd.values().stream().mapToLong(Long::longValue).sum();
    }

    int fine(int day, int kind, int act, int is) {
        return call(() -> {
            only(in(0, day, 999) && in(0, kind, 5) && in(0, is, 1), -1);
            only(isAct(act), -2);
            only(s.fines.size() < 8, -5);
            s.fines.add(new Fine(day, kind, act, is));
            return s.fines.size();
        });
    }

    int forgive() {
        int were = s.fines.size();
        s.fines.clear();
        return were;
    }

    int judge() {
        for (Fine f : s.fines) if (bindsOn(f.kind, f.act, f.day) != (f.is == 1)) return 0;
        return 1;
    }

    int unwritten(int i) {
        List<Integer> found = new ArrayList<>();
        for (int ago = 0; ago < 30 && ago <= s.terms[0]; ago++) {
            for (int r = 0; r < s.readers.size(); r++) {
                for (int a = 0; a < s.acts.size(); a++) {
                    s.log.add(new Reading(a, r, s.terms[0] - ago));
                    if (judge() == 1) found.add(ago * 32 + r * 8 + a);
                    s.log.remove(s.log.size() - 1);
                }
            }
        }
        if (i == NONE) return found.size();
        return i < 0 || i >= found.size() ? NONE : found.get(i);
    }

    int years(int seed, int n) {
        return call(() -> {
            only(in(0, seed, 1_000_000) && in(1, n, 60), -1);
            only(!s.acts.isEmpty() && !s.readers.isEmpty(), -3);
            State before = s.copy();
            years = new int[s.acts.size()][2];
            long x = seed;
            int all = 0;
            for (int k = 0; k < n && s.terms[0] <= 999; k++) {
                x = (x * 1103 + 12345) % 1_000_003;
                boolean rains = x % 10 < s.terms[1];
                x = (x * 1103 + 12345) % 1_000_003;
                int act = (int) (x % s.acts.size());
                x = (x * 1103 + 12345) % 1_000_003;
                int reader = (int) (x % s.readers.size());
                int day = s.terms[0];
                if (can(act, reader, day) && !(rains && takes(act, reader, day) > s.terms[2])) {
                    s.log.add(new Reading(act, reader, day));
                    years[act][0]++;
                    all++;
                }
                for (int a = 0; a < s.acts.size(); a++) if (holds(a, day)) years[a][1]++;
                s.terms[0]++;
            }
            s = before;
            return all;
        });
    }

    int drawn(int act, int what) {
        if (act < 0 || act >= years.length || !in(0, what, 1)) return NONE;
        return years[act][what];
    }

    int image(int k) {
        return call(() -> {
            only(in(0, k, 1), -1);
            images[k] = s.copy();
            return 0;
        });
    }

    int back(int k) {
        return call(() -> {
            only(in(0, k, 1), -1);
            only(images[k] != null, -2);
            s = images[k].copy();
            return 0;
        });
    }

    int count(int what) {
        return switch (what) {
            case 0 -> s.acts.size();
            case 1 -> s.readers.size();
            case 2 -> s.log.size();
            case 3 -> s.fines.size();
            case 4 -> s.laws.size();
            case 5 -> tape.size();
            case 6, 7, 8 -> refusals[what - 5];
            case 9, 10 -> refusals[what - 4];
            case 11 -> s.force;
            case 12, 13, 14, 15 -> s.terms[what - 12];
            default -> NONE;
        };
    }

    // ---- texts

    record Token(String text, int at) { }

    List<Clause> parse(List<Integer> bytes, boolean law) {
        fault = NONE;
        try {
            return new Reading2(bytes, law).text();
        } catch (Fault f) {
            fault = f.at;
            return null;
        }
    }

    static final class Reading2 {
        final List<Token> tokens = new ArrayList<>();
        final boolean law;
        int next = 0;
        int parts = 0;
        int open = 0;

        Reading2(List<Integer> bytes, boolean law) {
            this.law = law;
            StringBuilder b = new StringBuilder();
            for (int x : bytes) b.append((char) x);
            java.util.regex.Matcher m = java.util.regex.Pattern
                    .compile("[a-z]+|[0-9]+|[^ ]", java.util.regex.Pattern.DOTALL).matcher(b);
            while (m.find()) tokens.add(new Token(m.group(), m.start()));
            tokens.add(new Token("", bytes.size()));
        }

        String look() { return tokens.get(next).text; }
        Fault fault() { return new Fault(tokens.get(next).at); }
        boolean is(String... words) { return List.of(words).contains(look()); }
        String take(String... words) throws Fault {
            if (!is(words)) throw fault();
            return tokens.get(next++).text;
        }
        int number(int low, int high) throws Fault {
            if (!look().matches("[0-9]+")) throw fault();
            java.math.BigInteger n = new java.math.BigInteger(look());
            if (n.compareTo(java.math.BigInteger.valueOf(low)) < 0) throw fault();
            if (n.compareTo(java.math.BigInteger.valueOf(high)) > 0) throw fault();
            next++;
            return n.intValue();
        }

        List<Clause> text() throws Fault {
            List<Clause> all = new ArrayList<>();
            all.add(clause());
            while (is(";")) {
                take(";");
                if (all.size() == 12) throw fault();
                all.add(clause());
            }
            take("");
            return all;
        }

        Clause clause() throws Fault {
            Clause c = new Clause();
            c.kind = law ? take("lasts", "takes", "bars") : take("read", "wait");
            if (c.kind.equals("lasts") || c.kind.equals("takes")) c.first = sum();
            if (c.kind.equals("read")) {
                c.first = sum();
                take("by");
                c.second = sum();
            }
            if (!law && is("times")) {
                take("times");
                c.times = number(1, 20);
            }
            if (is("if")) {
                take("if");
                c.test = test();
            }
            return c;
        }

        Test test() throws Fault {
            Test t = both();
            while (is("or")) {
                take("or");
                Test one = t;
                Test two = both();
                t = w -> one.of(w) || two.of(w);
            }
            return t;
        }

        Test both() throws Fault {
            Test t = plain();
            while (is("and")) {
                take("and");
                Test one = t;
                Test two = plain();
                t = w -> one.of(w) && two.of(w);
            }
            return t;
        }

        Test plain() throws Fault {
            if (is("not")) {
                take("not");
                Test t = plain();
                return w -> !t.of(w);
            }
            if (is("(")) {
                open("(");
                Test t = test();
                close(")");
                return t;
            }
            Sum one = sum();
            String sign = take("<", ">", "=");
            Sum two = sum();
            return w -> {
                long x = one.of(w);
                long y = two.of(w);
                return sign.equals("<") ? x < y : sign.equals(">") ? x > y : x == y;
            };
        }

        void open(String sign) throws Fault {
            if (open == 8) throw fault();
            take(sign);
            open++;
        }

        void close(String sign) throws Fault {
            take(sign);
            open--;
        }

        static long near(long n) throws Broken {
            if (Math.abs(n) > 1_000_000_000L) throw new Broken();
            return n;
        }

        Sum sum() throws Fault {
            Sum t = term();
            while (is("+", "-")) {
                boolean plus = take("+", "-").equals("+");
                Sum one = t;
                Sum two = term();
                t = w -> plus ? near(one.of(w) + two.of(w)) : near(one.of(w) - two.of(w));
            }
            return t;
        }

        Sum term() throws Fault {
            Sum t = part();
            while (is("*", "/", "%")) {
                String sign = take("*", "/", "%");
                Sum one = t;
                Sum two = part();
                t = w -> {
                    long x = one.of(w);
                    long y = two.of(w);
                    if (sign.equals("*")) return near(x * y);
                    if (y == 0) throw new Broken();
                    return sign.equals("/") ? x / y : x % y;
                };
            }
            return t;
        }

        Sum part() throws Fault {
            if (is("[")) {
                open("[");
                Sum t = sum();
                close("]");
                return t;
            }
            if (parts == 50) throw fault();
            parts++;
            if (look().matches("[0-9]+")) {
                int n = number(0, 1000);
                return w -> n;
            }
            String word = law ? take("act", "length", "term", "binds", "reader", "class", "weekday", "mood")
                    : take("day", "held", "done", "last", "since", "voice");
            int n = word.equals("since") ? number(0, 7) : word.equals("voice") ? number(0, 3) : 0;
            return w -> w.of(word, n);
        }
    }
}
