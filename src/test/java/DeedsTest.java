/** Promises 7 to 14: stroke, rub, habit, hide, undo, judge, perform, night. */
public final class DeedsTest {
    public static void main(String[] args) {
        strokes();
        rubbing();
        havingHabits();
        hiding();
        undoing();
        judging();
        performing();
        nights();
        Checks.finish();
    }

    private static LastMark sample() {
        return Checks.told("sheet 2 3;hand;hand habit 4;may:cell<habit+2 or near=2;");
    }

    private static void strokes() {
        LastMark x = sample();
        Checks.due("stroke(0, 0)", x.stroke(0, 0), 5);
        Checks.due("last", x.count(5), 0);
        Checks.due("drawn again", x.stroke(0, 0), -12);
        Checks.due("the law", x.stroke(0, 4), -13);
        Checks.due("a hand that may", x.stroke(1, 4), 4);
        Checks.due("last", x.count(5), 4);
        Checks.due("near = 2 now", x.stroke(0, 3), 3);
        Checks.due("no such hand", x.stroke(2, 1), -11);
        Checks.due("no such hand", x.stroke(-1, 1), -11);
        Checks.due("no such cell", x.stroke(0, 6), -11);
        Checks.due("no such cell", x.stroke(0, -1), -11);
        Checks.due("hand ahead of drawn", x.stroke(2, 0), -11);
        Checks.due("refused ones change nothing", x.count(4), 25);
        Checks.due("undo", x.count(9), 3);
        x.hide(5);
        Checks.due("X is drawn", x.stroke(1, 5), 2);
        Checks.due("found", x.count(7), 1);
        Checks.due("found: nothing else", x.stroke(1, 1), -12);
        Checks.due("no such cell, found", x.stroke(1, 7), -11);
    }

    private static void rubbing() {
        LastMark x = Checks.told("sheet 1 3;hand;drawn 0;last 2;");
        Checks.due("it isn't drawn", x.rub(1), -12);
        Checks.due("rub(0)", x.rub(0), 2);
        Checks.due("the last one stays", x.count(5), 2);
        Checks.due("rub(2)", x.rub(2), 3);
        Checks.due("there is no last one", x.count(5), -1);
        Checks.due("drawn", x.count(4), 0);
        Checks.due("rub(3)", x.rub(3), -11);
        Checks.due("rub(-1)", x.rub(-1), -11);
        Checks.due("hide(1)", x.hide(1), -1);
        Checks.due("stroke(0, 0)", x.stroke(0, 0), 2);
        Checks.due("stroke(0, 1)", x.stroke(0, 1), 1);
        Checks.due("found: nothing can be rubbed", x.rub(0), -12);
        Checks.due("found: X neither", x.rub(1), -12);
    }

    private static void havingHabits() {
        LastMark x = sample();
        Checks.due("habit(0, 9)", x.habit(0, 9), 0);
        Checks.due("habit(1, 0)", x.habit(1, 0), 4);
        Checks.due("hand(0, 0)", x.hand(0, 0), 9);
        Checks.due("hand(0, 1)", x.hand(0, 1), 63);
        Checks.due("hand(1, 1)", x.hand(1, 1), 3);
        Checks.due("habit(0, 10)", x.habit(0, 10), -11);
        Checks.due("habit(0, -1)", x.habit(0, -1), -11);
        Checks.due("habit(2, 1)", x.habit(2, 1), -11);
        Checks.due("habit(-1, 1)", x.habit(-1, 1), -11);
        Checks.due("the same one", x.habit(0, 9), 9);
        Checks.due("it can be undone too", x.count(9), 3);
        x.hide(0);
        x.stroke(0, 0);
        Checks.due("habit once found", x.habit(0, 3), 9);
    }

    private static void hiding() {
        LastMark x = Checks.told("sheet 1 3;hand;drawn 0;");
        Checks.due("hide(0)", x.hide(0), -12);
        Checks.due("hide(1)", x.hide(1), -1);
        Checks.due("hide(2)", x.hide(2), 1);
        Checks.due("hide(2) again", x.hide(2), 2);
        Checks.due("hide(3)", x.hide(3), -11);
        Checks.due("hide(-1)", x.hide(-1), -11);
        Checks.due("count(6)", x.count(6), 2);
        Checks.due("count(7)", x.count(7), 0);
        Checks.due("stroke(0, 2)", x.stroke(0, 2), 1);
        Checks.due("count(7)", x.count(7), 1);
        Checks.due("hide(1) once found", x.hide(1), -12);
        Checks.due("where X is", x.count(6), 2);
    }

    private static void undoing() {
        LastMark x = Checks.told("sheet 1 3;hand;last 0;");
        Checks.due("undo(1)", x.undo(1), -3);
        x.stroke(0, 1);
        x.habit(0, 5);
        x.hide(2);
        x.rub(1);
        Checks.due("undo(0)", x.undo(0), -3);
        Checks.due("undo(-1)", x.undo(-1), -3);
        Checks.due("undo(5)", x.undo(5), -3);
        Checks.due("undo(1)", x.undo(1), 3);
        Checks.due("drawn", x.count(4), 3);
        Checks.due("last", x.count(5), 1);
        Checks.due("X", x.count(6), 2);
        Checks.due("undo(2)", x.undo(2), 1);
        Checks.due("X", x.count(6), -1);
        Checks.due("habit", x.hand(0, 0), 0);
        Checks.due("drawn", x.count(4), 3);
        Checks.due("undo(1)", x.undo(1), 0);
        Checks.due("drawn", x.count(4), 1);
        Checks.due("last", x.count(5), 0);
        for (int i = 0; i < 13; i++) {
            x.habit(0, i % 10);
            Checks.due("count(9)", x.count(9), Math.min(10, i + 1));
        }
        Checks.due("undo(11)", x.undo(11), -3);
        Checks.due("undo(10)", x.undo(10), 0);
        Checks.due("the eldest are forgotten", x.hand(0, 0), 2);
        Checks.due("refused calls aren't kept", x.stroke(0, 0), -12);
        Checks.due("count(9)", x.count(9), 0);
        x.hide(1);
        x.stroke(0, 1);
        Checks.due("found", x.count(7), 1);
        Checks.due("found can be undone", x.undo(1), 1);
        Checks.due("not found", x.count(7), 0);
    }

    private static void judged(LastMark x, String of, int place, int why, int drawn, int found) {
        int[] due = {place, why, drawn, found};
        for (int what = 0; what < 4; what++) {
            Checks.due("judge(0, " + what + ") of " + of, x.judge(0, what), due[what]);
        }
    }

    private static void judging() {
        LastMark x = sample();
        Checks.due("missing", x.judge(0, 0), -6);
        Checks.due("no such tray", x.judge(4, 0), -2);
        Checks.due("no such tray", x.judge(-1, 0), -2);
        Checks.due("what ahead of missing", x.judge(0, 4), -2);
        Checks.due("what", x.judge(0, -1), -2);
        Checks.fill(x, 0, 1);
        judged(x, "none", -1, 0, 0, 0);
        Checks.fill(x, 0, 1, 0, 101, 500, 705, 649, 1, 613, 105);
        judged(x, "649: no such hand", 4, 1, 2, 0);
        Checks.fill(x, 0, 1, 0, 101, 500, 705, 609, 1);
        judged(x, "1 again", 5, 2, 2, 0);
        Checks.fill(x, 0, 1, 705, 105, 0);
        judged(x, "found", 2, 2, 32, 1);
        Checks.fill(x, 0, 1, 705, 105, 613);
        judged(x, "a habit once found", -1, 0, 32, 1);
        Checks.fill(x, 0, 1, 5);
        judged(x, "the law", 0, 3, 0, 0);
        Checks.fill(x, 0, 1, 602, 3);
        judged(x, "the law by another habit", -1, 0, 8, 0);
        long[] no = {-1, 6, 99, 200, 399, 400, 499, 506, 599, 620, 699, 706, 799, 800, 4096, 32767};
        for (long v : no) {
            Checks.fill(x, 0, 1, v);
            judged(x, "deed " + v, 0, 1, 0, 0);
        }
        Checks.fill(x, 0, 3, 1L << 32, Long.MIN_VALUE);
        judged(x, "a deed of 64 bits", 0, 1, 0, 0);
        Checks.fill(x, 0, 1, 505);
        judged(x, "rubbing what isn't drawn", 0, 2, 0, 0);
        Checks.due("nothing was done", x.count(9), 0);
        Checks.due("habits stay", x.hand(0, 0), 0);
    }

    private static void performing() {
        LastMark x = sample();
        Checks.due("perform(4)", x.perform(4), -2);
        Checks.due("perform(-1)", x.perform(-1), -2);
        Checks.due("perform(3)", x.perform(3), -6);
        Checks.fill(x, 3, 2, 0, 101, 609, 3, 500, 3, 2);
        Checks.due("perform(3)", x.perform(3), 5);
        Checks.due("drawn", x.count(4), 10);
        Checks.due("last", x.count(5), 3);
        Checks.due("habit", x.hand(0, 0), 9);
        Checks.due("one call", x.count(9), 1);
        Checks.due("undone as a whole", x.undo(1), 0);
        Checks.due("drawn", x.count(4), 0);
        Checks.due("habit", x.hand(0, 0), 0);
        Checks.fill(x, 3, 2, 400, 0);
        Checks.due("none could be", x.perform(3), 0);
        Checks.due("nothing to undo", x.count(9), 0);
        Checks.fill(x, 3, 2);
        Checks.due("none is told", x.perform(3), 0);
    }

    /** The draws of a seed, written out by the document's words. */
    private static int[] draws(int seed, int n) {
        int[] all = new int[n];
        int x = seed;
        for (int i = 0; i < n; i++) {
            x = (int) (1103515245L * x + 12345L);
            all[i] = (int) ((x & 0xffffffffL) >> 16);
        }
        return all;
    }

    private static void nights() {
        LastMark x = Checks.told("sheet 3 4;hand;hand;hand;hand;");
        Checks.due("night(1, 0)", x.night(1, 0), -3);
        Checks.due("night(1, 41)", x.night(1, 41), -3);
        Checks.due("night(1, -1)", x.night(1, -1), -3);
        for (int seed = -40; seed < 200; seed++) {
            Checks.tell(x, "sheet 3 4;hand;hand;hand;hand;drawn 3;");
            int[] d = draws(seed, 3);
            int sort = d[0] % 6;
            boolean can = sort < 3 ? d[2] % 12 != 3 : sort == 3 ? d[1] % 12 == 3 : sort == 4 || d[1] % 12 != 3;
            Checks.due("night(" + seed + ", 1)", x.night(seed, 1), can ? 1 : 0);
            Checks.due("undo", x.count(9), can ? 1 : 0);
            Checks.due("drawn", x.count(4), !can ? 8 : sort < 3 ? 8 | 1 << d[2] % 12 : sort == 3 ? 0 : 8);
            Checks.due("X", x.count(6), can && sort == 5 ? d[1] % 12 : -1);
            Checks.due("habit", x.hand(d[1] % 4, 0), sort == 4 ? d[2] % 10 : 0);
        }
        Checks.tell(x, "sheet 1 1;");
        Checks.due("no hands, one cell", x.night(5, 40) >= 0 ? 1 : 0, 1);
        Checks.tell(x, "sheet 3 4;hand;hand;hand;hand;");
        int done = x.night(77, 40);
        Checks.dueTrue("some could be", done > 5);
        Checks.due("one call", x.count(9), 1);
        Checks.due("undone as a whole", x.undo(1), 0);
        Checks.due("drawn", x.count(4), 0);
        Checks.due("X", x.count(6), -1);
    }
}
