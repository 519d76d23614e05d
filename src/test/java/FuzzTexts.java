import java.util.Random;

/** Texts of either language by draws, most of them well formed. */
final class FuzzTexts {
    private final Random r;
    private final boolean law;
    private int budget = 45;

    FuzzTexts(Random r, boolean law) {
        this.r = r;
        this.law = law;
    }

    private boolean chance(int percent) { return r.nextInt(100) < percent; }
    private String pick(String... words) { return words[r.nextInt(words.length)]; }

    String text() {
        StringBuilder b = new StringBuilder(clause());
        int most = chance(5) ? 14 : 4;
        while (most-- > 0 && chance(most > 6 ? 95 : 60) && b.length() < 360) b.append(pick(";", " ; ", "; ")).append(clause());
        if (chance(12)) spoil(b);
        return b.length() > 400 ? b.substring(0, 400) : b.toString();
    }

    private void spoil(StringBuilder b) {
        int at = r.nextInt(b.length() + 1);
        switch (r.nextInt(5)) {
            case 0 -> b.setLength(at);
            case 1 -> b.insert(at, pick(";", " ", "(", ")", "[", "]", "9", "x", "A", "not ", " if ", "+", "=", "\u00e9", "\t"));
            case 2 -> {
                if (at < b.length()) b.deleteCharAt(at);
            }
            case 3 -> b.append(pick(" 1", " if", ";", " times 2", " and 1=1", ")", "   "));
            default -> b.insert(0, pick(" ", ";", "not ", "if ", "bars;", "wait;"));
        }
    }

    private String clause() {
        String c;
        if (law) {
            c = pick("lasts ", "takes ", "bars");
            if (!c.equals("bars")) c += sum(2);
        } else {
            c = chance(60) ? "read " + small(4) + " by " + small(2) : "wait";
            if (chance(30)) c += " times " + (chance(90) ? 1 + r.nextInt(4) : r.nextInt(23));
        }
        return chance(50) ? c + " if " + test(2) : c;
    }

    /** Mostly a number of something there may be. */
    private String small(int n) { return chance(75) ? "" + r.nextInt(n) : sum(1); }

    private String test(int depth) {
        String t = both(depth);
        while (chance(20)) t += " or " + both(depth);
        return t;
    }

    private String both(int depth) {
        String t = plain(depth);
        while (chance(20)) t += " and " + plain(depth);
        return t;
    }

    private String plain(int depth) {
        if (chance(15)) return "not " + plain(depth);
        if (depth > 0 && chance(20)) return "(" + test(depth - 1) + ")";
        return sum(depth) + pick("<", ">", "=", " < ", " = ") + sum(depth);
    }

    private String sum(int depth) {
        String t = part(depth);
        while (chance(30)) t += pick("+", "-", "*", "/", "%", " * ", " - ") + part(depth);
        return t;
    }

    private String part(int depth) {
        if (depth > 0 && chance(10)) return "[" + sum(depth - 1) + "]";
        if (budget-- <= 0) return "1";
        if (chance(40)) return "" + (chance(80) ? r.nextInt(9) : r.nextInt(1005));
        if (law) return pick("act", "length", "term", "binds", "reader", "class", "weekday", "mood");
        return pick("day", "held", "done", "last", "since " + r.nextInt(8), "voice " + r.nextInt(4));
    }
}
