import java.math.BigInteger;
import java.util.Random;

/**
 * Promises 15 to 24, 26, 28 to 30, 36 and 37 on sheets of ten to twelve cells, where the model's rows are too many to be
 * written out: each law stands here twice, as a text and as a line of Java, and what can be told behind the same cells
 * drawn and the same last one is worked out once, each question on its own.
 */
public final class WideTest {
    private static final int RUNS = 60;
    private static final int MOST_CELLS = 12;

    /** What a law looks at. */
    record Facts(int cell, int kind, int near, int left, int hand, int habit, int last, int far) {
    }

    interface Law {
        boolean holds(Facts f);
    }

    record Told(String text, Law law) {
    }

    private static final Told[] LAWS = {
        new Told("0 = 0", f -> true),
        new Told("far < 3", f -> f.far < 3),
        new Told("far = 1 or last = 9", f -> f.far == 1 || f.last == 9),
        new Told("near < 2", f -> f.near < 2),
        new Told("near = 0 or hand = 1", f -> f.near == 0 || f.hand == 1),
        new Told("kind > last - habit", f -> f.kind > f.last - f.habit),
        new Told("not far = 1 and not far = 2", f -> f.far != 1 && f.far != 2),
        new Told("kind = habit or far * near < left - 3", f -> f.kind == f.habit || f.far * f.near < f.left - 3),
        new Told("cell + left > 8 or near > 1", f -> f.cell + f.left > 8 || f.near > 1),
        new Told("[kind < last or left < 5] and not cell = habit",
            f -> (f.kind < f.last || f.left < 5) && f.cell != f.habit),
        new Told("far + hand * 2 < 4 + near or far > 3", f -> f.far + f.hand * 2 < 4 + f.near || f.far > 3),
        new Told("left > 6 or not kind = last", f -> f.left > 6 || f.kind != f.last),
    };

    private final Random random;
    private final String told;
    private final LastMark x;
    private final Law law;
    private final int columns;
    private final int cells;
    private final int[] kinds;
    private final int[] habits = new int[2];
    private final int drawn;
    private final int last;
    private final int[] odds;
    private final Object[] known = new Object[(1 << MOST_CELLS) * (MOST_CELLS + 1) * 2];

    private WideTest(int run) {
        random = new Random(500 + run);
        int[][] sizes = {{1, 12}, {2, 6}, {3, 4}, {4, 3}, {6, 2}, {12, 1}, {1, 10}, {5, 2}, {11, 1}, {2, 5}};
        int[] size = sizes[random.nextInt(sizes.length)];
        columns = size[1];
        cells = size[0] * columns;
        kinds = new int[cells];
        StringBuilder s = new StringBuilder("sheet " + size[0] + " " + columns + ";");
        for (int r = 0; r < size[0]; r++) {
            s.append("row ").append(r);
            for (int c = 0; c < columns; c++) {
                kinds[r * columns + c] = random.nextInt(9);
                s.append(' ').append(kinds[r * columns + c]);
            }
            s.append(';');
        }
        for (int h = 0; h < habits.length; h++) {
            habits[h] = random.nextInt(10);
            s.append("hand habit ").append(habits[h]).append(';');
        }
        int begun = 0;
        for (int i = random.nextInt(3); i > 0; i--) {
            int c = random.nextInt(cells);
            begun |= 1 << c;
            s.append("drawn ").append(c).append(';');
        }
        last = random.nextInt(2) == 0 ? -1 : random.nextInt(cells);
        if (last >= 0) {
            begun |= 1 << last;
            s.append("last ").append(last).append(';');
        }
        drawn = begun;
        Told one = LAWS[run % LAWS.length];
        law = one.law;
        s.append("may : ").append(one.text).append(";odds : kind * 7 + near;");
        odds = new int[cells];
        for (int c = 0; c < cells; c++) {
            odds[c] = (drawn >> c & 1) != 0 ? 0 : kinds[c] * 7 + near(c, drawn);
        }
        told = s.toString();
        x = Checks.told(told);
    }

    public static void main(String[] args) {
        for (int run = 0; run < RUNS; run++) {
            new WideTest(run).go();
        }
        Checks.finish();
    }

    private void due(String call, long got, long want) {
        Checks.due(told + " " + call, got, want);
    }

    private void go() {
        for (int h = 0; h < habits.length; h++) {
            int c = random.nextInt(cells);
            for (int i = 0; i < cells && (drawn >> c & 1) != 0; i++) {
                c = (c + 1) % cells;
            }
            rowsOf(h, c);
            countsOf(h);
            aheadOf(h, c);
            safestOf(h);
            chancesOf(h);
            for (int g = 0; g < habits.length; g++) {
                gameOf(h, g, 0);
                gameOf(h, g, 1);
            }
        }
    }

    // ---- the law

    private boolean areBeside(int a, int b) {
        return steps(a, b) == 1;
    }

    private int steps(int a, int b) {
        return Math.abs(a / columns - b / columns) + Math.abs(a % columns - b % columns);
    }

    private int near(int c, int mask) {
        int n = 0;
        for (int d = 0; d < cells; d++) {
            n += (mask >> d & 1) != 0 && areBeside(c, d) ? 1 : 0;
        }
        return n;
    }

    private boolean may(int h, int c, int mask, int before) {
        return (mask >> c & 1) == 0 && law.holds(new Facts(c, kinds[c], near(c, mask), cells - Integer.bitCount(mask), h,
            habits[h], before < 0 ? 9 : kinds[before], before < 0 ? 0 : steps(c, before)));
    }

    private void forget() {
        java.util.Arrays.fill(known, null);
    }

    private int place(int mask, int before, int turn) {
        return (mask * (MOST_CELLS + 1) + before + 1) * 2 + turn;
    }

    // ---- rows, as texts of a letter a cell

    private static String longer(String row, String best) {
        return best == null || row.length() > best.length() ? row : best;
    }

    private static String shorter(String row, String best) {
        return row != null && (best == null || row.length() < best.length()) ? row : best;
    }

    private String puttingOff(int h, int c, int mask, int before) {
        int at = place(mask, before, 0);
        if (known[at] == null) {
            String best = "";
            for (int d = 0; d < cells; d++) {
                if (d != c && may(h, d, mask, before)) {
                    best = longer((char) ('a' + d) + puttingOff(h, c, mask | 1 << d, d), best);
                }
            }
            known[at] = best;
        }
        return (String) known[at];
    }

    private String stuck(int h, int mask, int before) {
        int at = place(mask, before, 0);
        if (known[at] == null) {
            String best = null;
            for (int d = 0; d < cells; d++) {
                if (may(h, d, mask, before)) {
                    best = shorter((char) ('a' + d) + stuck(h, mask | 1 << d, d), best);
                }
            }
            known[at] = best == null ? "" : best;
        }
        return (String) known[at];
    }

    /** The row that comes to a cell soonest; "-" if there is none. */
    private String coming(int h, int c, int mask, int before) {
        int at = place(mask, before, 0);
        if (known[at] == null) {
            String best = null;
            for (int d = 0; d < cells; d++) {
                if (may(h, d, mask, before)) {
                    String rest = d == c ? "" : coming(h, c, mask | 1 << d, d);
                    best = shorter(rest.equals("-") ? null : (char) ('a' + d) + rest, best);
                }
            }
            known[at] = best == null ? "-" : best;
        }
        return (String) known[at];
    }

    private static int at(String row, int i) {
        return row.equals("-") || i >= row.length() ? -1 : row.charAt(i) - 'a';
    }

    private void rowsOf(int h, int c) {
        forget();
        String off = puttingOff(h, c, drawn, last);
        forget();
        String end = stuck(h, drawn, last);
        forget();
        String come = coming(h, c, drawn, last);
        due("longest(" + h + ", " + c + ")", x.longest(h, c), off.length());
        due("stuck(" + h + ")", x.stuck(h), end.length());
        due("soonest(" + h + ", " + c + ")", x.soonest(h, c), come.equals("-") ? -1 : come.length());
        for (int i = 0; i < 13; i++) {
            due("longWay(" + h + ", " + c + ", " + i + ")", x.longWay(h, c, i), at(off, i));
            due("stuckWay(" + h + ", " + i + ")", x.stuckWay(h, i), at(end, i));
            due("way(" + h + ", " + c + ", " + i + ")", x.way(h, c, i), at(come, i));
        }
        x.numbers(0, 0, 12);
        due("lists(0, " + h + ")", x.lists(0, h), end.length());
    }

    // ---- how many

    /** By how many strokes are to come: how many rows; in the last place, how many that end stuck. */
    private long[] counted(int h, int mask, int before) {
        int at = place(mask, before, 0);
        if (known[at] == null) {
            long[] counts = new long[MOST_CELLS + 2];
            counts[0] = 1;
            boolean any = false;
            for (int d = 0; d < cells; d++) {
                if (may(h, d, mask, before)) {
                    any = true;
                    long[] rest = counted(h, mask | 1 << d, d);
                    for (int n = 0; n < MOST_CELLS; n++) {
                        counts[n + 1] += rest[n];
                    }
                    counts[MOST_CELLS + 1] += rest[MOST_CELLS + 1];
                }
            }
            counts[MOST_CELLS + 1] += any ? 0 : 1;
            known[at] = counts;
        }
        return (long[]) known[at];
    }

    private void countsOf(int h) {
        forget();
        long[] counts = counted(h, drawn, last);
        due("ends(" + h + ")", x.ends(h), counts[MOST_CELLS + 1]);
        for (int n = 0; n <= MOST_CELLS; n++) {
            due("rows(" + h + ", " + n + ")", x.rows(h, n), counts[n]);
        }
    }

    /** The cells drawn some time from here on, as bits. */
    private int reached(int h, int without, int mask, int before) {
        int at = place(mask, before, 0);
        if (known[at] == null) {
            int bits = 0;
            for (int d = 0; d < cells; d++) {
                if (d != without && may(h, d, mask, before)) {
                    bits |= 1 << d | reached(h, without, mask | 1 << d, d);
                }
            }
            known[at] = bits;
        }
        return (Integer) known[at];
    }

    /** A cell has to be drawn ahead of another one if that can't be reached without it. */
    private void aheadOf(int h, int c) {
        forget();
        int all = reached(h, -1, drawn, last);
        int ahead = 0;
        for (int d = 0; d < cells && (all >> c & 1) != 0; d++) {
            if (d != c && (drawn >> d & 1) == 0) {
                forget();
                ahead |= (reached(h, d, drawn, last) >> c & 1) == 0 ? 1 << d : 0;
            }
        }
        due("reach(" + h + ")", x.reach(h), all);
        due("ahead(" + h + ", " + c + ")", x.ahead(h, c), ahead);
    }

    // ---- safest strokes

    private int risk(String row) {
        int sum = 0;
        for (int i = 0; i < row.length(); i++) {
            sum += odds[row.charAt(i) - 'a'];
        }
        return sum;
    }

    private String safest(int h, int n, int mask, int before) {
        if (n == 0) {
            return "";
        }
        int at = place(mask, before, 0);
        if (known[at] == null) {
            String best = null;
            for (int d = 0; d < cells; d++) {
                if (may(h, d, mask, before)) {
                    String rest = safest(h, n - 1, mask | 1 << d, d);
                    String row = (char) ('a' + d) + rest;
                    if (!rest.equals("-") && (best == null || risk(row) < risk(best))) {
                        best = row;
                    }
                }
            }
            known[at] = best == null ? "-" : best;
        }
        return (String) known[at];
    }

    private void safestOf(int h) {
        int all = 0;
        for (int one : odds) {
            all += one;
        }
        for (int n = 0; n <= MOST_CELLS; n += 1 + random.nextInt(3)) {
            forget();
            String row = safest(h, n, drawn, last);
            boolean none = all == 0 || row.equals("-");
            int rest = none ? 0 : all - risk(row);
            int common = none ? 1 : BigInteger.valueOf(rest).gcd(BigInteger.valueOf(all)).intValue();
            String call = "safest(" + h + ", " + n + ", ";
            due(call + "0)", x.safest(h, n, 0), none ? -1 : rest / common);
            due(call + "1)", x.safest(h, n, 1), none ? -1 : all / common);
            for (int i = 0; i < MOST_CELLS; i++) {
                due(call + (10 + i) + ")", x.safest(h, n, 10 + i), none ? -1 : at(row, i));
            }
        }
    }

    // ---- two by turns

    /** {1 if who is to draw wins, strokes to come}. */
    private int[] play(int h, int g, int other, int mask, int before, int turn) {
        int at = place(mask, before, turn);
        if (known[at] == null) {
            int hand = turn == 0 ? h : g;
            int soonest = 99;
            int latest = -1;
            for (int d = 0; d < cells; d++) {
                if (may(hand, d, mask, before)) {
                    int[] reply = play(h, g, other, mask | 1 << d, d, 1 - turn);
                    soonest = reply[0] == 0 ? Math.min(soonest, 1 + reply[1]) : soonest;
                    latest = Math.max(latest, 1 + reply[1]);
                }
            }
            known[at] = latest < 0 ? new int[] {other, 0} : soonest < 99 ? new int[] {1, soonest} : new int[] {0, latest};
        }
        return (int[]) known[at];
    }

    private void gameOf(int h, int g, int other) {
        forget();
        int[] due = play(h, g, other, drawn, last, 0);
        int best = -1;
        for (int d = cells - 1; d >= 0; d--) {
            if (may(h, d, drawn, last) && play(h, g, other, drawn | 1 << d, d, 1)[0] == 0) {
                best = d;
            }
        }
        String hands = "(" + h + ", " + g + ", " + other + ")";
        due("best" + hands, x.best(h, g, other), best);
        due("wins" + hands, x.wins(h, g, other), due[0]);
        due("lasts" + hands, x.lasts(h, g, other), due[1]);
    }

    // ---- chances

    /** {above, below} of each cell being drawn in so many strokes, added to what it is by now. */
    private void spread(int h, int n, int mask, int before, BigInteger below, BigInteger[][] sums) {
        int open = 0;
        for (int d = 0; d < cells; d++) {
            open += may(h, d, mask, before) ? 1 : 0;
        }
        for (int d = 0; d < cells && n > 0; d++) {
            if (may(h, d, mask, before)) {
                BigInteger part = below.multiply(BigInteger.valueOf(open));
                sums[d][0] = sums[d][0].multiply(part).add(sums[d][1]);
                sums[d][1] = sums[d][1].multiply(part);
                BigInteger common = sums[d][0].gcd(sums[d][1]);
                sums[d][0] = sums[d][0].divide(common);
                sums[d][1] = sums[d][1].divide(common);
                spread(h, n - 1, mask | 1 << d, d, part, sums);
            }
        }
    }

    private void chancesOf(int h) {
        int n = random.nextInt(6) == 0 ? 4 : 1 + random.nextInt(3);
        BigInteger[][] sums = new BigInteger[cells][];
        for (int c = 0; c < cells; c++) {
            sums[c] = new BigInteger[] {(drawn >> c & 1) != 0 ? BigInteger.ONE : BigInteger.ZERO, BigInteger.ONE};
        }
        spread(h, n, drawn, last, BigInteger.ONE, sums);
        int latest = -1;
        for (int c = 0; c < cells; c++) {
            String call = "chance(" + h + ", " + c + ", " + n + ", ";
            due(call + "0)", x.chance(h, c, n, 0), sums[c][0].longValueExact());
            due(call + "1)", x.chance(h, c, n, 1), sums[c][1].longValueExact());
            if ((drawn >> c & 1) == 0 && (latest < 0
                    || sums[c][0].multiply(sums[latest][1]).compareTo(sums[latest][0].multiply(sums[c][1])) < 0)) {
                latest = c;
            }
        }
        due("latest(" + h + ", " + n + ")", x.latest(h, n), latest);
    }
}
