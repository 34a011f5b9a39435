import java.util.Random;

/** Promises 1 to 43: calls by fixed seeds, each answer held against the plain model's. */
public final class ModelTest {
    private static final int RUNS = 700;
    private static final int CALLS = 250;

    private final Random random;
    private final LastMark x = new LastMark();
    private final Model m = new Model();
    private final int run;
    private String text = "";

    private ModelTest(int run) {
        this.run = run;
        random = new Random(9000 + run);
    }

    public static void main(String[] args) {
        for (int run = 0; run < RUNS; run++) {
            new ModelTest(run).go();
        }
        Checks.finish();
    }

    private void go() {
        for (int i = 0; i < CALLS / 2 && i < 3; i++) {
            call();
        }
        tellSheet(false);
        for (int i = 0; i < CALLS; i++) {
            call();
        }
    }

    private int upTo(int n) {
        return random.nextInt(n + 1);
    }

    private boolean oneOf(int n) {
        return random.nextInt(n) == 0;
    }

    /** Mostly within 0 to n - 1, now and then beside it. */
    private int some(int n) {
        if (oneOf(25)) {
            return new int[] {-1, n, n + 1, Integer.MIN_VALUE, Integer.MAX_VALUE, 99}[upTo(5)];
        }
        return n <= 0 ? 0 : random.nextInt(n);
    }

    private void due(String call, long got, long want) {
        Checks.due("run " + run + " of \"" + text.replace("\n", "\\n") + "\": " + call, got, want);
    }

    // ---- texts

    private String sum(boolean may, int depth) {
        StringBuilder s = new StringBuilder(term(may, depth));
        for (int i = upTo(2) - (oneOf(2) ? 1 : 0); i > 0; i--) {
            s.append(oneOf(2) ? " + " : "-").append(term(may, depth));
        }
        return s.toString();
    }

    private String term(boolean may, int depth) {
        StringBuilder s = new StringBuilder(atom(may, depth));
        while (oneOf(4)) {
            s.append(oneOf(2) ? "*" : " * ").append(atom(may, depth));
        }
        return s.toString();
    }

    private String atom(boolean may, int depth) {
        if (depth < 7 && oneOf(7)) {
            return "(" + sum(may, depth + 1) + ")";
        }
        if (oneOf(3)) {
            return "" + (oneOf(12) ? upTo(999) : upTo(5));
        }
        String[] words = {"cell", "kind", "near", "left", "hand", "habit", "last", "far"};
        return words[upTo(may ? 7 : 3)];
    }

    private String truth(int depth) {
        StringBuilder s = new StringBuilder(unit(depth));
        while (oneOf(3)) {
            s.append(oneOf(2) ? " or " : " and ").append(unit(depth));
        }
        return s.toString();
    }

    private String unit(int depth) {
        if (depth < 7 && oneOf(6)) {
            return "not " + unit(depth + 1);
        }
        if (depth < 7 && oneOf(6)) {
            return "[" + truth(depth + 1) + "]";
        }
        return sum(true, depth) + " " + "=<>".charAt(upTo(2)) + " " + sum(true, depth);
    }

    private String goodText() {
        int rows = 1 + upTo(oneOf(4) ? 11 : 2);
        int cols = 1 + upTo(Math.min(12 / rows - 1, oneOf(4) ? 11 : 2));
        int cells = rows * cols;
        StringBuilder s = new StringBuilder("sheet " + rows + " " + cols + ";");
        for (int i = upTo(6); i > 0; i--) {
            s.append(oneOf(5) ? "\n " : " ");
            switch (upTo(5)) {
                case 0:
                    s.append("row ").append(upTo(rows - 1));
                    for (int c = 0; c < cols; c++) {
                        s.append(' ').append(upTo(8));
                    }
                    s.append(';');
                    break;
                case 1: s.append("drawn ").append(upTo(cells - 1)).append(';'); break;
                case 2: s.append("last ").append(upTo(cells - 1)).append(" ;"); break;
                case 3: s.append("odds:").append(sum(false, 0)).append(';'); break;
                default: s.append("hand").append(oneOf(2) ? " habit " + upTo(9) : "").append(';'); break;
            }
        }
        s.append("hand;");
        if (!oneOf(6)) {
            s.append("may : ").append(truth(0)).append(";");
        }
        if (oneOf(3)) {
            s.append("may:").append(narrowLaw()).append(" and [").append(truth(2)).append("];");
            return s.toString();
        }
        for (int left = cells - 6; left > 0; left--) {
            s.append("drawn ").append(upTo(cells - 1)).append(';');
        }
        return s.toString();
    }

    /** Of laws by which few rows are left even if many cells are. */
    private String narrowLaw() {
        String[] laws = {"[far=1 or last=9]", "[far<2 and near<2]", "[far = 1 or far = 0 and cell < 2]",
            "[left - near * 2 < cell + 1 or kind = last]", "[cell=left or cell=12-left or cell + left = 7]",
            "[far = 2 or last = 9 and hand = 0]", "[near=1 or last=9]", "[far=1+habit or far=0]"};
        return laws[random.nextInt(laws.length)];
    }

    private String spoilt(String good) {
        StringBuilder s = new StringBuilder(good);
        String[] bits = {";", ":", "+", "(", ")", "[", "]", "=", "not", "7", "0", "13", "1000", "row", "hand", "habit",
            "far", "sheet", "last", "odds", "may", "and", "or", ",", "A", "\t", "\u00e9", " ", "x", "drawn", "\0"};
        for (int i = 1 + upTo(1); i > 0; i--) {
            int at = upTo(s.length());
            String bit = bits[random.nextInt(bits.length)];
            switch (upTo(3)) {
                case 0: s.insert(at, bit); break;
                case 1: s.delete(at, Math.min(s.length(), at + 1 + upTo(2))); break;
                case 2: s.setLength(at); break;
                default: s.replace(at, Math.min(s.length(), at + bit.length()), bit); break;
            }
        }
        return s.toString();
    }

    private void feedBoth(String told) {
        for (int at = 0; at < told.length(); at += 20) {
            int[] f = new int[5];
            for (int i = 0; i < 20; i++) {
                f[i / 4] = f[i / 4] << 8 | (at + i < told.length() ? told.charAt(at + i) : 32);
            }
            due("feed", x.feed(f[0], f[1], f[2], f[3], f[4]), m.feed(f[0], f[1], f[2], f[3], f[4]));
        }
    }

    private void tellSheet(boolean spoil) {
        String good = goodText();
        String told = spoil ? spoilt(good) : good;
        if (x.count(10) != 0) {
            due("sheet(0)", x.sheet(0), m.sheet(0));
        }
        feedBoth(told);
        int length = Math.min(told.length(), x.count(10));
        String was = text;
        text = told.substring(0, length);
        int got = x.sheet(length);
        due("sheet(" + length + ")", got, m.sheet(length));
        due("fault(0)", x.fault(0), m.fault(0));
        due("fault(1)", x.fault(1), m.fault(1));
        if (got < 0) {
            text = was;
        }
        for (int c = 0; c < m.count(2); c++) {
            for (int what = 0; what < 6; what++) {
                due("cell(" + c + ", " + what + ")", x.cell(c, what), m.cell(c, what));
            }
        }
    }

    // ---- calls

    private void call() {
        int which = random.nextInt(50);
        if (which < 22) {
            changingCall(which);
        } else if (m.isSmall()) {
            rowCall(which);
        }
        if (oneOf(5)) {
            for (int what = -1; what < 13; what++) {
                due("count(" + what + ")", x.count(what), m.count(what));
            }
        }
    }

    private void changingCall(int which) {
        int cells = m.count(2);
        int hands = m.count(3);
        int h = some(hands);
        int c = some(cells);
        int t = some(4);
        int n = some(10);
        switch (which) {
            case 0: case 1: case 2: due("stroke(" + h + ", " + c + ")", x.stroke(h, c), m.stroke(h, c)); break;
            case 3: case 4: due("rub(" + c + ")", x.rub(c), m.rub(c)); break;
            case 5: due("habit(" + h + ", " + n + ")", x.habit(h, n), m.habit(h, n)); break;
            case 6: due("hide(" + c + ")", x.hide(c), m.hide(c)); break;
            case 7: case 8: n = oneOf(4) ? some(11) : 1; due("undo(" + n + ")", x.undo(n), m.undo(n)); break;
            case 9: fillDeeds(t); break;
            case 10: n = some(4); due("judge(" + t + ", " + n + ")", x.judge(t, n), m.judge(t, n)); break;
            case 11: due("perform(" + t + ")", x.perform(t), m.perform(t)); break;
            case 12: int seed = random.nextInt(); n = some(41);
                due("night(" + seed + ", " + n + ")", x.night(seed, n), m.night(seed, n)); break;
            case 13: case 14: fillSeen(t); break;
            case 15: fillSets(t); break;
            case 16: n = some(2); due("image(" + n + ")", x.image(n), m.image(n)); break;
            case 17: if (oneOf(3)) { n = some(2); due("restore(" + n + ")", x.restore(n), m.restore(n)); } break;
            case 18: if (oneOf(4)) { tellSheet(oneOf(2)); } break;
            case 19: n = some(2); due("hand(" + h + ", " + n + ")", x.hand(h, n), m.hand(h, n)); break;
            case 20: n = some(6); due("cell(" + c + ", " + n + ")", x.cell(c, n), m.cell(c, n)); break;
            default: n = some(41); int sort = some(4);
                due("numbers(" + t + ", " + sort + ", " + n + ")", x.numbers(t, sort, n), m.numbers(t, sort, n)); break;
        }
    }

    private void put(int t, int i, long v) {
        due("write(" + t + ", " + i + ", " + v + ")", x.write(t, i, v), m.write(t, i, v));
    }

    private void lay(int t, int sort, int n) {
        due("numbers(" + t + ", " + sort + ", " + n + ")", x.numbers(t, sort, n), m.numbers(t, sort, n));
    }

    private void fillDeeds(int t) {
        int n = upTo(6);
        lay(t, 1 + upTo(2), n);
        for (int i = 0; i < n; i++) {
            int c = some(m.count(2));
            int h = some(Math.max(1, m.count(3)));
            int[] deeds = {h * 100 + c, h * 100 + c, 500 + c, 600 + h * 10 + upTo(9), 700 + c, 450, 800, -1};
            put(t, i, deeds[upTo(oneOf(5) ? 7 : 4)]);
        }
    }

    private void fillSeen(int t) {
        int n = oneOf(15) ? upTo(14) : 1 + upTo(Math.max(0, Math.min(5, m.undrawn() - 1)));
        lay(t, upTo(3), n);
        int met = m.count(4);
        for (int i = 0; i < n; i++) {
            int c = random.nextInt(m.count(2));
            for (int tries = 0; tries < 30 && (met >> c & 1) != 0; tries++) {
                c = random.nextInt(m.count(2));
            }
            met |= 1 << c;
            put(t, i, oneOf(60) ? some(m.count(2)) : c);
        }
    }

    private void fillSets(int t) {
        int n = oneOf(15) ? upTo(12) : 1 + upTo(6);
        int all = (1 << m.count(2)) - 1;
        lay(t, 1 + upTo(2), n);
        int c = random.nextInt(m.count(2));
        for (int i = 0; i < n; i++) {
            int set = random.nextInt() & all | random.nextInt() & all;
            put(t, i, oneOf(40) ? new long[] {-1, all + 1L, all}[upTo(2)] : oneOf(3) ? set : set & ~(1 << c));
        }
        for (int d = -1; d <= m.count(2); d++) {
            due("covers(" + t + ", " + d + ", 0)", x.covers(t, d, 0), m.covers(t, d, 0));
            due("covers(" + t + ", " + d + ", 1)", x.covers(t, d, 1), m.covers(t, d, 1));
        }
    }

    private void rowCall(int which) {
        int hands = m.count(3);
        int h = some(hands);
        int g = some(hands);
        int c = some(m.count(2));
        int i = some(5);
        int t = some(4);
        switch (which) {
            case 22: due("longest(" + h + ", " + c + ")", x.longest(h, c), m.longest(h, c)); break;
            case 23: due("longWay(" + h + ", " + c + ", " + i + ")", x.longWay(h, c, i), m.longWay(h, c, i)); break;
            case 24: due("stuck(" + h + ")", x.stuck(h), m.stuck(h)); break;
            case 25: due("stuckWay(" + h + ", " + i + ")", x.stuckWay(h, i), m.stuckWay(h, i)); break;
            case 26: due("soonest(" + h + ", " + c + ")", x.soonest(h, c), m.soonest(h, c)); break;
            case 27: due("way(" + h + ", " + c + ", " + i + ")", x.way(h, c, i), m.way(h, c, i)); break;
            case 28: due("reach(" + h + ")", x.reach(h), m.reach(h)); break;
            case 29: due("ahead(" + h + ", " + c + ")", x.ahead(h, c), m.ahead(h, c)); break;
            case 30: due("rows(" + h + ", " + i + ")", x.rows(h, i), m.rows(h, i)); break;
            case 31: due("ends(" + h + ")", x.ends(h), m.ends(h)); break;
            case 32: i = some(2); due("likely(" + c + ", " + i + ")", x.likely(c, i), m.likely(c, i)); break;
            case 33: case 34: int what = oneOf(2) ? some(2) : 9 + some(13);
                due("safest(" + h + ", " + i + ", " + what + ")", x.safest(h, i, what), m.safest(h, i, what)); break;
            case 35: due("likeliest()", x.likeliest(), m.likeliest()); break;
            case 36: i = some(2); due("wins(" + h + ", " + g + ", " + i + ")", x.wins(h, g, i), m.wins(h, g, i)); break;
            case 37: i = some(2); due("best(" + h + ", " + g + ", " + i + ")", x.best(h, g, i), m.best(h, g, i)); break;
            case 38: i = some(2); due("lasts(" + h + ", " + g + ", " + i + ")", x.lasts(h, g, i), m.lasts(h, g, i)); break;
            case 39: due("habits(" + t + ", " + h + ")", x.habits(t, h), m.habits(t, h)); break;
            case 40: due("look(" + t + ", " + h + ")", x.look(t, h), m.look(t, h)); break;
            case 41: due("carried(" + t + ")", x.carried(t), m.carried(t)); break;
            case 42: case 43: int part = oneOf(3) ? some(2) : 9 + some(13);
                due("changes(" + t + ", " + part + ")", x.changes(t, part), m.changes(t, part)); break;
            case 44: case 45: i = some(2); int n = some(5);
                due("chance(" + h + ", " + c + ", " + n + ", " + i + ")", x.chance(h, c, n, i), m.chance(h, c, n, i)); break;
            case 46: i = some(5); due("latest(" + h + ", " + i + ")", x.latest(h, i), m.latest(h, i)); break;
            case 47: due("lists(" + t + ", " + h + ")", x.lists(t, h), m.lists(t, h)); break;
            case 48: put(t, some(5), random.nextLong()); break;
            default: seeWhole(h); break;
        }
    }

    /** All that a row tells, step by step. */
    private void seeWhole(int h) {
        for (int i = -1; i < 7; i++) {
            due("stuckWay(" + h + ", " + i + ")", x.stuckWay(h, i), m.stuckWay(h, i));
            due("rows(" + h + ", " + i + ")", x.rows(h, i), m.rows(h, i));
            due("safest(" + h + ", 3, " + (9 + i) + ")", x.safest(h, 3, 9 + i), m.safest(h, 3, 9 + i));
        }
        int c = some(m.count(2));
        for (int i = -1; i < 7; i++) {
            due("longWay(" + h + ", " + c + ", " + i + ")", x.longWay(h, c, i), m.longWay(h, c, i));
            due("way(" + h + ", " + c + ", " + i + ")", x.way(h, c, i), m.way(h, c, i));
        }
    }
}
