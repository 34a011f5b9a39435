/** The edges of promises 7 to 14: stroke, rub, habit, hide, undo, judge, perform, night. */
public final class EdgeDeedsTest {
    private static final String TWELVE = "sheet 3 4;hand;hand;hand;hand;";

    public static void main(String[] args) {
        leftBehindAStroke();
        refusedStrokes();
        leftBehindARub();
        refusedRubs();
        whatTheHabitWas();
        refusedHabits();
        whereXWas();
        refusedHides();
        howManyStillCanBe();
        refusedUndoing();
        firstPlace();
        why();
        drawnThen();
        foundThen();
        asIfDone();
        refusedJudging();
        tillOneCannotBe();
        refusedPerforming();
        howManyCouldBe();
        timesOfANight();
        aDraw();
        eachDrawOfANight();
        nightsAsInATray();
        Checks.finish();
    }

    private static void leftBehindAStroke() {
        Doc.promise(7, "A STROKE: how many CELLS are left then.");
        LastMark x = Checks.reads(TWELVE, 5);
        for (int c = 0; c < 12; c++) {
            Checks.due("stroke(" + c % 4 + ", " + c + ")", x.stroke(c % 4, c), 11 - c);
        }
        Checks.due("none is left", x.stroke(0, 0), -12);
        LastMark found = Checks.reads(TWELVE, 5);
        found.hide(11);
        Checks.due("X is left like others", found.stroke(0, 0), 11);
        Checks.due("X is drawn like others", found.stroke(0, 11), 10);
    }

    private static void refusedStrokes() {
        Doc.promise(7, "-11 to -13.");
        LastMark x = Checks.reads("sheet 1 3;hand;hand;drawn 1;may:cell=hand or cell=1;", 5);
        int[][] due = {{-1, 0, -11}, {2, 0, -11}, {0, -1, -11}, {0, 3, -11}, {2, 1, -11}, {0, 1, -12}, {1, 1, -12},
            {0, 2, -13}, {1, 0, -13}};
        for (int[] d : due) {
            Checks.due("stroke(" + d[0] + ", " + d[1] + ")", x.stroke(d[0], d[1]), d[2]);
            Checks.counts(x, "as it was", 1, 3, 3, 2, 2, -1, -1, 0, 2, 0);
        }
        Checks.due("one that can be", x.stroke(0, 0), 1);
    }

    private static void leftBehindARub() {
        Doc.promise(8, "To RUB: how many CELLS are left then.");
        LastMark x = Checks.reads("sheet 1 3;hand;last 1;drawn 0;drawn 2;", 5);
        Checks.due("rub(1)", x.rub(1), 1);
        Checks.due("no last one", x.count(5), -1);
        Checks.due("rub(0)", x.rub(0), 2);
        Checks.due("rub(2)", x.rub(2), 3);
        Checks.due("all are left", x.count(4), 0);
    }

    private static void refusedRubs() {
        Doc.promise(8, "-11, -12.");
        LastMark x = Checks.reads("sheet 1 3;hand;last 1;", 3);
        int[][] due = {{-1, -11}, {3, -11}, {32, -11}, {33, -11}, {0, -12}, {2, -12}};
        for (int[] d : due) {
            Checks.due("rub(" + d[0] + ")", x.rub(d[0]), d[1]);
            Checks.counts(x, "as it was", 1, 3, 3, 1, 2, 1, -1, 0, 2, 0);
        }
        x.hide(0);
        x.stroke(0, 0);
        Checks.due("found: rub(1)", x.rub(1), -12);
        Checks.due("found: rub(0)", x.rub(0), -12);
        Checks.due("found: rub(3)", x.rub(3), -11);
        Checks.due("drawn as ahead", x.count(4), 3);
    }

    private static void whatTheHabitWas() {
        Doc.promise(9, "To have a HABIT (0 to 9): what it was.");
        LastMark x = Checks.reads("sheet 1 1;hand;hand habit 9;", 3);
        Checks.due("habit(0, 9)", x.habit(0, 9), 0);
        Checks.due("habit(0, 0)", x.habit(0, 0), 9);
        Checks.due("habit(1, 9)", x.habit(1, 9), 9);
        Checks.due("habit(1, 0)", x.habit(1, 0), 9);
        Checks.due("hand(0, 0)", x.hand(0, 0), 0);
        Checks.due("each can be undone", x.count(9), 4);
    }

    private static void refusedHabits() {
        Doc.promise(9, "-11.");
        LastMark x = Checks.reads("sheet 1 1;hand habit 4;hand habit 5;", 3);
        int[][] no = {{0, -1}, {0, 10}, {1, 99}, {-1, 0}, {2, 0}, {3, 0}, {4, 0}, {0, Integer.MAX_VALUE}, {0, Integer.MIN_VALUE},
            {Integer.MAX_VALUE, 0}, {Integer.MIN_VALUE, 0}};
        for (int[] n : no) {
            Checks.due("habit(" + n[0] + ", " + n[1] + ")", x.habit(n[0], n[1]), -11);
        }
        Checks.due("hand(0, 0)", x.hand(0, 0), 4);
        Checks.due("hand(1, 0)", x.hand(1, 0), 5);
        Checks.due("nothing can be undone", x.count(9), 0);
        Checks.due("no hands", new LastMark().habit(0, 0), -11);
    }

    private static void whereXWas() {
        Doc.promise(10, "To HIDE: where X was (NONE).");
        LastMark x = Checks.reads("sheet 1 3;hand;", 2);
        Checks.due("hide(0)", x.hide(0), -1);
        Checks.due("hide(2)", x.hide(2), 0);
        Checks.due("hide(2)", x.hide(2), 2);
        Checks.due("undo(3)", x.undo(3), 0);
        Checks.due("none again", x.hide(1), -1);
    }

    private static void refusedHides() {
        Doc.promise(10, "-11, -12.");
        LastMark x = Checks.reads("sheet 1 3;hand;drawn 1;", 3);
        int[][] due = {{-1, -11}, {3, -11}, {33, -11}, {1, -12}};
        for (int[] d : due) {
            Checks.due("hide(" + d[0] + ")", x.hide(d[0]), d[1]);
            Checks.counts(x, "as it was", 1, 3, 3, 1, 2, -1, -1, 0, 2, 0);
        }
        x.hide(0);
        x.stroke(0, 0);
        Checks.due("found: hide(2)", x.hide(2), -12);
        Checks.due("found: hide(3)", x.hide(3), -11);
        Checks.due("X as it was", x.count(6), 0);
    }

    private static void howManyStillCanBe() {
        Doc.promise(11, "n calls (1 to 10) are UNDONE: how many still can be.");
        for (int n = 1; n <= 10; n++) {
            LastMark x = Checks.reads(TWELVE, 5);
            for (int c = 0; c < 10; c++) {
                x.stroke(0, c);
            }
            Checks.due("undo(" + n + ")", x.undo(n), 10 - n);
            Checks.due("count(9)", x.count(9), 10 - n);
            Checks.due("count(4)", x.count(4), (1 << 10 - n) - 1);
            Checks.due("count(5)", x.count(5), 9 - n);
        }
    }

    private static void refusedUndoing() {
        Doc.promise(11, "-3: n, more than can be.");
        LastMark x = Checks.reads(TWELVE, 5);
        Checks.due("nothing was done", x.undo(1), -3);
        x.stroke(0, 0);
        x.stroke(0, 1);
        for (int n : new int[] {0, -1, 3, 10, 11, Integer.MAX_VALUE, Integer.MIN_VALUE}) {
            Checks.due("undo(" + n + ")", x.undo(n), -3);
            Checks.due("count(9)", x.count(9), 2);
            Checks.due("count(4)", x.count(4), 3);
        }
        for (int c = 2; c < 12; c++) {
            x.stroke(0, c);
        }
        Checks.due("undo(11) of twelve", x.undo(11), -3);
        Checks.due("undo(10) of twelve", x.undo(10), 0);
        Checks.due("undo(1), the eldest are forgotten", x.undo(1), -3);
        Checks.due("count(4)", x.count(4), 3);
    }

    private static LastMark forDeeds() {
        return Checks.reads("sheet 1 4;hand;hand;drawn 3;may:cell<habit+2;", 5);
    }

    private static void firstPlace() {
        Doc.promise(12, "DEEDS, judged as if done, what 0: the first place that can't be (NONE),");
        LastMark x = forDeeds();
        Checks.fill(x, 0, 1);
        Checks.due("no deeds", x.judge(0, 0), -1);
        Checks.fill(x, 0, 1, 0, 101);
        Checks.due("all can be", x.judge(0, 0), -1);
        Checks.fill(x, 0, 1, 400, 400);
        Checks.due("the first can't", x.judge(0, 0), 0);
        Checks.fill(x, 0, 1, 0, 0, 400);
        Checks.due("the second can't behind the first", x.judge(0, 0), 1);
        Checks.fill(x, 0, 1, 2);
        Checks.due("by habit 0 it can't", x.judge(0, 0), 0);
        Checks.fill(x, 0, 1, 601, 2);
        Checks.due("by habit 1 it can", x.judge(0, 0), -1);
        x.numbers(0, 1, 40);
        for (int i = 0; i < 39; i++) {
            x.write(0, i, 600);
        }
        x.write(0, 39, 3);
        Checks.due("the fortieth can't", x.judge(0, 0), 39);
        x.write(0, 39, 503);
        Checks.due("all forty can", x.judge(0, 0), -1);
    }

    private static void why() {
        Doc.promise(12, "1: why (0),");
        LastMark x = forDeeds();
        long[][] due = {{0, 0}, {1, 0}, {2, 3}, {3, 2}, {4, 1}, {200, 1}, {503, 0}, {502, 2}, {504, 1}, {619, 0}, {620, 1},
            {700, 0}, {703, 2}, {704, 1}, {400, 1}, {-1, 1}};
        for (long[] d : due) {
            Checks.fill(x, 0, 1, d[0]);
            Checks.due("why not " + d[0], x.judge(0, 1), d[1]);
        }
        Checks.fill(x, 0, 1);
        Checks.due("no deeds", x.judge(0, 1), 0);
        Checks.fill(x, 0, 1, 2, 3, 4);
        Checks.due("why the first can't", x.judge(0, 1), 3);
    }

    private static void drawnThen() {
        Doc.promise(12, "2: CELLS that are DRAWN then, as bits,");
        LastMark x = forDeeds();
        Checks.fill(x, 0, 1);
        Checks.due("no deeds", x.judge(0, 2), 8);
        Checks.fill(x, 0, 1, 0, 101);
        Checks.due("two strokes", x.judge(0, 2), 11);
        Checks.fill(x, 0, 1, 503);
        Checks.due("none then", x.judge(0, 2), 0);
        Checks.fill(x, 0, 1, 0, 2, 1);
        Checks.due("as far as the first that can't be", x.judge(0, 2), 9);
        Checks.fill(x, 0, 1, 609, 2, 1, 0);
        Checks.due("all", x.judge(0, 2), 15);
    }

    private static void foundThen() {
        Doc.promise(12, "3: 1 if the author is FOUND then, else 0.");
        LastMark x = forDeeds();
        Checks.fill(x, 0, 1, 700, 1);
        Checks.due("hidden", x.judge(0, 3), 0);
        Checks.fill(x, 0, 1, 700, 0);
        Checks.due("found", x.judge(0, 3), 1);
        Checks.fill(x, 0, 1, 700, 0, 1);
        Checks.due("found, the next can't be", x.judge(0, 3), 1);
        Checks.due("its place", x.judge(0, 0), 2);
        Checks.due("why", x.judge(0, 1), 2);
        Checks.fill(x, 0, 1, 1, 700, 400, 0);
        Checks.due("not as far as that", x.judge(0, 3), 0);
        x.hide(1);
        x.stroke(0, 1);
        Checks.fill(x, 0, 1);
        Checks.due("found ahead", x.judge(0, 3), 1);
        Checks.fill(x, 0, 1, 605);
        Checks.due("a habit can be had once found", x.judge(0, 0), -1);
    }

    private static void asIfDone() {
        Doc.promise(12, "judged as if done");
        LastMark x = forDeeds();
        Checks.fill(x, 0, 1, 609, 2, 503, 701, 1);
        Checks.due("all can be", x.judge(0, 0), -1);
        Checks.counts(x, "nothing is done", 1, 4, 4, 2, 8, -1, -1, 0, 3, 0, 0, 5);
        Checks.due("the habit stays", x.hand(0, 0), 0);
        Checks.due("all can be once more", x.judge(0, 0), -1);
    }

    private static void refusedJudging() {
        Doc.promise(12, "-2: the TRAY, what; -6.");
        LastMark x = forDeeds();
        int[][] due = {{-1, 0, -2}, {4, 0, -2}, {0, -1, -2}, {0, 4, -2}, {4, 4, -2}, {0, 0, -6}, {3, 3, -6},
            {Integer.MAX_VALUE, 0, -2}, {Integer.MIN_VALUE, 0, -2}, {0, Integer.MAX_VALUE, -2}, {0, Integer.MIN_VALUE, -2}};
        for (int[] d : due) {
            Checks.due("judge(" + d[0] + ", " + d[1] + ")", x.judge(d[0], d[1]), d[2]);
        }
        Checks.fill(x, 3, 1);
        Checks.due("a tray of no numbers isn't missing", x.judge(3, 0), -1);
    }

    private static void tillOneCannotBe() {
        Doc.promise(13, "They are done, till one can't be: how many.");
        LastMark x = forDeeds();
        Checks.fill(x, 0, 1);
        Checks.due("no deeds", x.perform(0), 0);
        Checks.fill(x, 0, 1, 3);
        Checks.due("the first can't be", x.perform(0), 0);
        Checks.due("no call did some", x.count(9), 0);
        Checks.fill(x, 0, 1, 0, 2, 1);
        Checks.due("the second can't be", x.perform(0), 1);
        Checks.due("what stands behind isn't done", x.count(4), 9);
        Checks.due("one call", x.count(9), 1);
        Checks.fill(x, 0, 1, 701, 1, 600);
        Checks.due("found, and a habit", x.perform(0), 3);
        Checks.due("found", x.count(7), 1);
        Checks.fill(x, 0, 1, 503);
        Checks.due("found: none can be", x.perform(0), 0);
        Checks.due("two calls", x.count(9), 2);
        LastMark forty = forDeeds();
        forty.numbers(0, 1, 40);
        for (int i = 0; i < 40; i++) {
            forty.write(0, i, i % 2 == 0 ? 0 : 500);
        }
        Checks.due("forty", forty.perform(0), 40);
        Checks.due("one call", forty.count(9), 1);
    }

    private static void refusedPerforming() {
        Doc.promise(13, "-2; -6.");
        LastMark x = forDeeds();
        for (int t : new int[] {-1, 4, Integer.MAX_VALUE, Integer.MIN_VALUE}) {
            Checks.due("perform(" + t + ")", x.perform(t), -2);
        }
        for (int t = 0; t < 4; t++) {
            Checks.due("perform(" + t + ")", x.perform(t), -6);
        }
    }

    /** The draws of a seed, by long arithmetic. */
    private static int[] draws(int seed, int n) {
        int[] all = new int[n];
        long x = seed;
        for (int i = 0; i < n; i++) {
            x = 1103515245L * x + 12345L & 0xffffffffL;
            all[i] = (int) (x >> 16);
        }
        return all;
    }

    /** The numbers of a tray that tell what so many times of a night bring. */
    private static long[] deedsOf(int seed, int times) {
        int[] d = draws(seed, 3 * times);
        long[] deeds = new long[times];
        int at = 0;
        for (int i = 0; i < times; i++) {
            int sort = d[at] % 6;
            long one = d[at + 1];
            long two = d[at + 2];
            if (sort < 3) {
                deeds[i] = one % 4 * 100 + two % 12;
            } else if (sort == 4) {
                deeds[i] = 600 + one % 4 * 10 + two % 10;
            } else {
                deeds[i] = (sort == 3 ? 500 : 700) + one % 12;
            }
            at += sort < 3 || sort == 4 ? 3 : 2;
        }
        return deeds;
    }

    private static void howManyCouldBe() {
        Doc.promise(14, "A NIGHT: how many could be.");
        LastMark none = Checks.reads("sheet 1 1;drawn 0;", 2);
        int rubbed = 0;
        for (int seed = 0; seed < 400 && rubbed == 0; seed++) {
            long deed = deedsOf(seed, 1)[0];
            rubbed = deed == 500 ? 1 : 0;
            Checks.due("one cell, drawn: night(" + seed + ", 1)", none.night(seed, 1), rubbed);
        }
        Checks.due("one could be", rubbed, 1);
        Checks.due("nights of nothing can't be undone", none.count(9), 1);
    }

    private static void timesOfANight() {
        Doc.promise(14, "-3: how many times.");
        Doc.terms("so many times (1 to 40):");
        LastMark x = Checks.reads(TWELVE, 5);
        for (int times : new int[] {0, -1, 41, 100, Integer.MAX_VALUE, Integer.MIN_VALUE}) {
            Checks.due("night(7, " + times + ")", x.night(7, times), -3);
        }
        Checks.counts(x, "as it was", 3, 4, 12, 4, 0, -1, -1, 0, 12, 0);
        Checks.dueTrue("night(7, 1)", x.night(7, 1) >= 0);
        Checks.dueTrue("night(7, 40)", x.night(7, 40) > 0);
    }

    /** A seed above the greatest and below the least wraps around; a draw is never below 0. */
    private static void aDraw() {
        Doc.terms("A NIGHT by a SEED (x, an int; a DRAW: x becomes 1103515245 x + 12345, it is x >>> 16):");
        Checks.due("the first draw of 0", draws(0, 1)[0], 0);
        Checks.due("the first draw of 1", draws(1, 1)[0], 16838);
        for (int seed : new int[] {0, 1, -1, Integer.MAX_VALUE, Integer.MIN_VALUE, 65536, -65536, 12345, 1 << 30}) {
            night(seed, 1);
            night(seed, 2);
            night(seed, 40);
        }
    }

    /** A night does what a tray for each of its times would. */
    private static void night(int seed, int times) {
        LastMark x = Checks.reads("sheet 3 4;hand;hand habit 4;hand;hand;last 3;may:cell+habit<hand*3+9;", 7);
        LastMark y = Checks.reads("sheet 3 4;hand;hand habit 4;hand;hand;last 3;may:cell+habit<hand*3+9;", 7);
        int could = 0;
        for (long deed : deedsOf(seed, times)) {
            y.numbers(0, 1, 1);
            y.write(0, 0, deed);
            could += y.perform(0);
        }
        String call = "night(" + seed + ", " + times + ")";
        Checks.due(call, x.night(seed, times), could);
        for (int what = 4; what < 9; what++) {
            Checks.due("count(" + what + ") behind " + call, x.count(what), y.count(what));
        }
        for (int h = 0; h < 4; h++) {
            Checks.due("habit behind " + call, x.hand(h, 0), y.hand(h, 0));
        }
        Checks.due("one call, if some could be", x.count(9), could > 0 ? 1 : 0);
        if (could > 0) {
            Checks.due("undone as a whole", x.undo(1), 0);
            Checks.counts(x, "behind undoing " + call, 3, 4, 12, 4, 8, 3, -1, 0, 11, 0);
        }
    }

    private static void eachDrawOfANight() {
        Doc.terms("DRAW modulo 6: 0 to 2 HAND DRAW modulo 4 draws CELL DRAW modulo 12; 3 CELL DRAW modulo 12 is RUBBED; 4 HAND "
            + "DRAW modulo 4 has HABIT DRAW modulo 10; 5 X is HIDDEN at CELL DRAW modulo 12;");
        int met = 0;
        for (int seed = 100; seed < 160; seed++) {
            met |= 1 << draws(seed, 1)[0] % 6;
            night(seed, 1);
        }
        Checks.due("each sort of deed was met", met, 63);
    }

    private static void nightsAsInATray() {
        Doc.terms("as in a TRAY, if it can be.");
        for (int seed = -200; seed < 0; seed += 7) {
            night(seed, 3);
            night(seed * 99991, 40);
        }
        LastMark small = Checks.reads("sheet 1 1;", 1);
        int could = 0;
        for (long deed : deedsOf(3, 40)) {
            could += deed == 700 ? 1 : 0;
        }
        Checks.due("no hands, one cell", small.night(3, 40), could);
    }
}
