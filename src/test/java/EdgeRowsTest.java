/** The edges of promises 15 to 24: longest, longWay, stuck, stuckWay, soonest, way, reach, ahead, rows, ends. */
public final class EdgeRowsTest {
    public static void main(String[] args) {
        xAside();
        strokesFromNowOn();
        puttingOff();
        firstOfTheLongest();
        refusedLongest();
        stepsOfTheLongest();
        refusedLongWay();
        stuck();
        firstOfTheStuck();
        refusedStuck();
        stepsOfTheStuck();
        refusedStuckWay();
        coming();
        cannotCome();
        refusedSoonest();
        stepsOfTheSoonest();
        refusedWay();
        reached();
        refusedReach();
        aheadOfACell();
        cannotComeThere();
        refusedAhead();
        rowsOfNStrokes();
        refusedRows();
        ends();
        refusedEnds();
        Checks.finish();
    }

    private static void longest(LastMark x, int h, int c, int... cells) {
        Checks.due("longest(" + h + ", " + c + ")", x.longest(h, c), cells.length);
        for (int i = 0; i <= 12; i++) {
            int due = i < cells.length ? cells[i] : -1;
            Checks.due("longWay(" + h + ", " + c + ", " + i + ")", x.longWay(h, c, i), due);
        }
    }

    private static void stuck(LastMark x, int h, int... cells) {
        Checks.due("stuck(" + h + ")", x.stuck(h), cells.length);
        for (int i = 0; i <= 12; i++) {
            Checks.due("stuckWay(" + h + ", " + i + ")", x.stuckWay(h, i), i < cells.length ? cells[i] : -1);
        }
    }

    private static void soonest(LastMark x, int h, int c, int... cells) {
        Checks.due("soonest(" + h + ", " + c + ")", x.soonest(h, c), cells.length == 0 ? -1 : cells.length);
        for (int i = 0; i <= 12; i++) {
            Checks.due("way(" + h + ", " + c + ", " + i + ")", x.way(h, c, i), i < cells.length ? cells[i] : -1);
        }
    }

    private static void rows(LastMark x, int h, long... counts) {
        for (int n = 0; n <= 12; n++) {
            Checks.due("rows(" + h + ", " + n + ")", x.rows(h, n), n < counts.length ? counts[n] : 0);
        }
    }

    private static LastMark walk() {
        return Checks.reads("sheet 1 4;hand;may:far<2;", 3);
    }

    private static void xAside() {
        Doc.terms("A ROW of a HAND: STROKES from now on, one behind the other, nothing else being done, X aside. (So in all of "
            + "this, unless it is told.)");
        LastMark x = Checks.reads("sheet 1 4;hand;hand;", 3);
        x.hide(0);
        stuck(x, 0, 0, 1, 2, 3);
        Checks.due("X is drawn", x.stroke(0, 0), 3);
        Checks.due("found", x.count(7), 1);
        stuck(x, 0, 1, 2, 3);
        longest(x, 0, 2, 1, 3);
        soonest(x, 0, 2, 2);
        rows(x, 0, 1, 3, 6, 6);
        Checks.due("reach(0)", x.reach(0), 14);
        Checks.due("ahead(0, 1)", x.ahead(0, 1), 0);
        Checks.due("ends(0)", x.ends(0), 6);
        Checks.due("safest(0, 1, 10)", x.safest(0, 1, 10), 1);
        Checks.due("wins(0, 1, 0)", x.wins(0, 1, 0), 1);
        Checks.due("best(0, 1, 0)", x.best(0, 1, 0), 1);
        Checks.due("lasts(0, 1, 0)", x.lasts(0, 1, 0), 3);
        Checks.due("chance(0, 1, 1, 1)", x.chance(0, 1, 1, 1), 3);
        Checks.due("latest(0, 1)", x.latest(0, 1), 1);
        Checks.fill(x, 0, 0, 1, 2);
        Checks.due("habits(0, 0)", x.habits(0, 0), 1023);
        Checks.due("look(0, 0)", x.look(0, 0), 1);
        Checks.due("carried(0)", x.carried(0), 4);
        Checks.due("changes(0, 0)", x.changes(0, 0), 0);
        Checks.due("lists(0, 0)", x.lists(0, 0), 2);
    }

    private static void strokesFromNowOn() {
        Doc.terms("STROKES from now on, one behind the other,");
        LastMark x = walk();
        rows(x, 0, 1, 4, 6, 4, 2);
        x.stroke(0, 1);
        rows(x, 0, 1, 2, 1, 0);
        x.undo(1);
        rows(x, 0, 1, 4, 6, 4, 2);
        Checks.due("nothing is done by asking", x.count(4), 0);
        Checks.due("nothing can be undone by asking", x.count(9), 0);
    }

    private static void puttingOff() {
        Doc.promise(15, "PUTTING OFF a CELL (that isn't DRAWN): how many STROKES.");
        Doc.terms("PUTTING OFF a CELL: a ROW in which it isn't DRAWN: the most STROKES, of like ones the first by CELLS.");
        longest(walk(), 0, 0, 1, 2, 3);
        longest(walk(), 0, 3, 0, 1, 2);
        longest(Checks.reads("sheet 1 1;hand;", 2), 0, 0);
        longest(Checks.reads("sheet 1 3;hand;may:1=2;", 3), 0, 1);
        longest(Checks.reads("sheet 1 4;last 0;hand;may:far<2;", 4), 0, 1);
        longest(Checks.reads("sheet 3 4;hand;", 2), 0, 0, 1, 2, 3, 4, 5, 6, 7, 8, 9, 10, 11);
        longest(Checks.reads("sheet 3 4;hand;", 2), 0, 11, 0, 1, 2, 3, 4, 5, 6, 7, 8, 9, 10);
    }

    private static void firstOfTheLongest() {
        Doc.terms("of like ones the first by CELLS.");
        longest(walk(), 0, 1, 2, 3);
        longest(walk(), 0, 2, 0, 1);
        longest(Checks.reads("sheet 1 4;hand;may:far=2 or last=9;", 3), 0, 0, 1, 3);
        longest(Checks.reads("sheet 2 2;hand;may:far=1 or last=9;", 3), 0, 3, 1, 0, 2);
    }

    private static void refusedLongest() {
        Doc.promise(15, "-2: the HAND, the CELL; -5: it is DRAWN.");
        LastMark x = Checks.reads("sheet 1 3;hand;drawn 1;", 3);
        int[][] due = {{-1, 0, -2}, {1, 0, -2}, {0, -1, -2}, {0, 3, -2}, {1, 1, -2}, {0, 33, -2}, {0, 1, -5}};
        for (int[] d : due) {
            Checks.due("longest(" + d[0] + ", " + d[1] + ")", x.longest(d[0], d[1]), d[2]);
        }
        Checks.due("no hands", new LastMark().longest(0, 0), -2);
    }

    private static void stepsOfTheLongest() {
        Doc.promise(16, "The i-th CELL of it. NONE: not so many;");
        LastMark x = walk();
        Checks.due("longWay(0, 0, 2)", x.longWay(0, 0, 2), 3);
        Checks.due("longWay(0, 0, 3)", x.longWay(0, 0, 3), -1);
        Checks.due("longWay(0, 0, MAX)", x.longWay(0, 0, Integer.MAX_VALUE), -1);
        Checks.due("of no strokes", Checks.reads("sheet 1 1;hand;", 2).longWay(0, 0, 0), -1);
    }

    private static void refusedLongWay() {
        Doc.promise(16, "-2; -5 likewise; -3: i is below 0.");
        LastMark x = Checks.reads("sheet 1 3;hand;drawn 1;", 3);
        int[][] due = {{-1, 0, 0, -2}, {1, 0, 0, -2}, {0, -1, 0, -2}, {0, 3, 0, -2}, {1, 1, -1, -2}, {0, 3, -1, -2},
            {0, 1, 0, -5}, {0, 1, -1, -5}, {0, 0, -1, -3}, {0, 0, Integer.MIN_VALUE, -3}};
        for (int[] d : due) {
            Checks.due("longWay(" + d[0] + ", " + d[1] + ", " + d[2] + ")", x.longWay(d[0], d[1], d[2]), d[3]);
        }
    }

    private static void stuck() {
        Doc.promise(17, "STUCK: how many STROKES.");
        Doc.terms("STUCK: a ROW behind which nothing may be DRAWN: the fewest, of like ones the first.");
        stuck(Checks.reads("sheet 1 1;hand;drawn 0;", 3), 0);
        stuck(Checks.reads("sheet 1 3;hand;may:1=2;", 3), 0);
        stuck(Checks.reads("sheet 1 1;hand;", 2), 0, 0);
        stuck(Checks.reads("sheet 3 4;hand;", 2), 0, 0, 1, 2, 3, 4, 5, 6, 7, 8, 9, 10, 11);
        stuck(Checks.reads("sheet 1 4;hand;last 0;may:far<2;", 4), 0, 1, 2, 3);
    }

    private static void firstOfTheStuck() {
        Doc.terms("the fewest, of like ones the first. COMING");
        stuck(walk(), 0, 1, 0);
        stuck(Checks.reads("sheet 1 5;hand;may:near=0;", 3), 0, 0, 3);
        stuck(Checks.reads("sheet 1 3;hand;may:near=0;", 3), 0, 1);
        LastMark two = Checks.reads("sheet 1 3;hand;hand habit 1;may:cell<2-habit or near>1;", 4);
        stuck(two, 0, 0, 1);
        stuck(two, 1, 0);
    }

    private static void refusedStuck() {
        Doc.promise(17, "-2.");
        LastMark x = Checks.reads("sheet 1 3;hand;", 2);
        for (int h : new int[] {-1, 1, 4, Integer.MAX_VALUE, Integer.MIN_VALUE}) {
            Checks.due("stuck(" + h + ")", x.stuck(h), -2);
        }
        Checks.due("no hands", new LastMark().stuck(0), -2);
    }

    private static void stepsOfTheStuck() {
        Doc.promise(18, "The i-th CELL of it. NONE: not so many;");
        LastMark x = walk();
        Checks.due("stuckWay(0, 1)", x.stuckWay(0, 1), 0);
        Checks.due("stuckWay(0, 2)", x.stuckWay(0, 2), -1);
        Checks.due("stuckWay(0, MAX)", x.stuckWay(0, Integer.MAX_VALUE), -1);
        Checks.due("of no strokes", Checks.reads("sheet 1 1;hand;drawn 0;", 3).stuckWay(0, 0), -1);
    }

    private static void refusedStuckWay() {
        Doc.promise(18, "-2; -3: i is below 0.");
        LastMark x = walk();
        int[][] due = {{-1, 0, -2}, {1, 0, -2}, {1, -1, -2}, {0, -1, -3}, {0, Integer.MIN_VALUE, -3}};
        for (int[] d : due) {
            Checks.due("stuckWay(" + d[0] + ", " + d[1] + ")", x.stuckWay(d[0], d[1]), d[2]);
        }
    }

    private static void coming() {
        Doc.promise(19, "COMING to a CELL: how many STROKES.");
        Doc.terms("COMING to a CELL: a ROW whose last STROKE draws it: the fewest, of like ones the first.");
        soonest(Checks.reads("sheet 1 1;hand;", 2), 0, 0, 0);
        soonest(walk(), 0, 3, 3);
        soonest(Checks.reads("sheet 1 12;hand;last 0;may:far<2;", 4), 0, 11, 1, 2, 3, 4, 5, 6, 7, 8, 9, 10, 11);
        soonest(Checks.reads("sheet 3 4;hand;may:cell+left=12;", 3), 0, 11, 0, 1, 2, 3, 4, 5, 6, 7, 8, 9, 10, 11);
        soonest(Checks.reads("sheet 2 2;hand;last 0;may:far<2;", 4), 0, 3, 1, 3);
    }

    private static void cannotCome() {
        Doc.promise(19, "NONE: it can't be;");
        soonest(Checks.reads("sheet 1 4;hand;last 0;drawn 2;may:far<2;", 5), 0, 3);
        soonest(Checks.reads("sheet 1 3;hand;may:cell>0;", 3), 0, 0);
        soonest(Checks.reads("sheet 1 1;hand;may:1=2;", 3), 0, 0);
    }

    private static void refusedSoonest() {
        Doc.promise(19, "-2; -5: it is DRAWN.");
        LastMark x = Checks.reads("sheet 1 3;hand;drawn 1;may:1=2;", 4);
        int[][] due = {{-1, 0, -2}, {1, 0, -2}, {0, -1, -2}, {0, 3, -2}, {1, 1, -2}, {0, 1, -5}, {0, 0, -1}};
        for (int[] d : due) {
            Checks.due("soonest(" + d[0] + ", " + d[1] + ")", x.soonest(d[0], d[1]), d[2]);
        }
    }

    private static void stepsOfTheSoonest() {
        Doc.promise(20, "The i-th CELL of it. NONE: not so many, it can't be;");
        LastMark x = Checks.reads("sheet 1 4;hand;last 0;may:far<2 and cell<3;", 4);
        Checks.due("way(0, 2, 0)", x.way(0, 2, 0), 1);
        Checks.due("way(0, 2, 1)", x.way(0, 2, 1), 2);
        Checks.due("not so many", x.way(0, 2, 2), -1);
        Checks.due("not so many", x.way(0, 2, Integer.MAX_VALUE), -1);
        Checks.due("it can't be", x.way(0, 3, 0), -1);
    }

    private static void refusedWay() {
        Doc.promise(20, "-2; -5 likewise; -3: i is below 0.");
        LastMark x = Checks.reads("sheet 1 3;hand;drawn 1;may:1=2;", 4);
        int[][] due = {{-1, 0, 0, -2}, {1, 0, 0, -2}, {0, -1, 0, -2}, {0, 3, 0, -2}, {1, 1, -1, -2}, {0, 3, -1, -2},
            {0, 1, 0, -5}, {0, 1, -1, -5}, {0, 0, -1, -3}, {0, 0, Integer.MIN_VALUE, -3}};
        for (int[] d : due) {
            Checks.due("way(" + d[0] + ", " + d[1] + ", " + d[2] + ")", x.way(d[0], d[1], d[2]), d[3]);
        }
    }

    private static void reached() {
        Doc.promise(21, "CELLS that a HAND can draw some time, as bits.");
        Checks.due("all", Checks.reads("sheet 3 4;hand;", 2).reach(0), 4095);
        Checks.due("none", Checks.reads("sheet 3 4;hand;may:1=2;", 3).reach(0), 0);
        Checks.due("all are drawn", Checks.reads("sheet 1 2;hand;drawn 0;drawn 1;", 4).reach(0), 0);
        Checks.due("not the drawn ones", Checks.reads("sheet 1 4;hand;drawn 2;", 3).reach(0), 11);
        Checks.due("behind others", Checks.reads("sheet 1 4;hand;last 0;may:far<2;", 4).reach(0), 14);
        Checks.due("not past a drawn one", Checks.reads("sheet 1 4;hand;last 0;drawn 2;may:far<2;", 5).reach(0), 2);
        Checks.due("the twelfth alone", Checks.reads("sheet 3 4;hand;may:cell=11;", 3).reach(0), 2048);
    }

    private static void refusedReach() {
        Doc.promise(21, "-2.");
        LastMark x = walk();
        for (int h : new int[] {-1, 1, 4, Integer.MAX_VALUE, Integer.MIN_VALUE}) {
            Checks.due("reach(" + h + ")", x.reach(h), -2);
        }
    }

    private static void aheadOfACell() {
        Doc.promise(22, "Other CELLS that aren't DRAWN now, each of which has to be DRAWN ahead in whichever ROW a HAND comes to a "
            + "CELL, as bits");
        LastMark x = Checks.reads("sheet 1 4;hand;last 0;may:far<2;", 4);
        Checks.due("ahead(0, 1)", x.ahead(0, 1), 0);
        Checks.due("ahead(0, 2)", x.ahead(0, 2), 2);
        Checks.due("ahead(0, 3)", x.ahead(0, 3), 6);
        Checks.due("by two ways", Checks.reads("sheet 2 2;hand;last 0;may:far<2;", 4).ahead(0, 3), 0);
        Checks.due("all the others", Checks.reads("sheet 3 4;hand;may:cell+left=12;", 3).ahead(0, 11), 2047);
        Checks.due("those drawn now aren't told", Checks.reads("sheet 1 4;hand;drawn 0;may:near>0;", 4).ahead(0, 2), 2);
        Checks.due("a longer way does without", Checks.reads("sheet 2 3;hand;last 0;may:far<2;", 4).ahead(0, 2), 0);
    }

    private static void cannotComeThere() {
        Doc.promise(22, "(0: it can't come there).");
        LastMark x = Checks.reads("sheet 1 4;hand;last 0;drawn 2;may:far<2;", 5);
        Checks.due("walled off", x.ahead(0, 3), 0);
        Checks.due("by no law", Checks.reads("sheet 1 1;hand;may:1=2;", 3).ahead(0, 0), 0);
    }

    private static void refusedAhead() {
        Doc.promise(22, "-2; -5: the CELL is DRAWN.");
        LastMark x = Checks.reads("sheet 1 3;hand;drawn 1;may:1=2;", 4);
        int[][] due = {{-1, 0, -2}, {1, 0, -2}, {0, -1, -2}, {0, 3, -2}, {1, 1, -2}, {0, 1, -5}, {0, 0, 0}};
        for (int[] d : due) {
            Checks.due("ahead(" + d[0] + ", " + d[1] + ")", x.ahead(d[0], d[1]), d[2]);
        }
    }

    private static void rowsOfNStrokes() {
        Doc.promise(23, "How many ROWS of just n STROKES (0 to 12) there are.");
        rows(Checks.reads("sheet 3 4;hand;", 2), 0, 1, 12, 132, 1320, 11880, 95040, 665280, 3991680, 19958400, 79833600,
            239500800, 479001600, 479001600);
        rows(Checks.reads("sheet 3 4;hand;may:far+last<99;", 3), 0, 1, 12, 132, 1320, 11880, 95040, 665280, 3991680, 19958400,
            79833600, 239500800, 479001600, 479001600);
        rows(Checks.reads("sheet 1 1;hand;drawn 0;", 3), 0, 1);
        rows(Checks.reads("sheet 1 2;hand;may:1=2;", 3), 0, 1);
        rows(Checks.reads("sheet 1 1;hand;", 2), 0, 1, 1);
        rows(walk(), 0, 1, 4, 6, 4, 2);
    }

    private static void refusedRows() {
        Doc.promise(23, "-2; -3.");
        LastMark x = walk();
        int[][] due = {{-1, 0, -2}, {1, 0, -2}, {1, 13, -2}, {1, -1, -2}, {0, -1, -3}, {0, 13, -3}, {0, Integer.MAX_VALUE, -3},
            {0, Integer.MIN_VALUE, -3}, {0, 12, 0}};
        for (int[] d : due) {
            Checks.due("rows(" + d[0] + ", " + d[1] + ")", x.rows(d[0], d[1]), d[2]);
        }
    }

    private static void ends() {
        Doc.promise(24, "How many ROWS there are behind which it is STUCK.");
        Checks.due("twelve cells", Checks.reads("sheet 3 4;hand;", 2).ends(0), 479001600);
        Checks.due("the row of no strokes", Checks.reads("sheet 1 1;hand;drawn 0;", 3).ends(0), 1);
        Checks.due("the row of no strokes", Checks.reads("sheet 1 2;hand;may:1=2;", 3).ends(0), 1);
        Checks.due("one stroke", Checks.reads("sheet 1 1;hand;", 2).ends(0), 1);
        Checks.due("of several lengths", walk().ends(0), 6);
        Checks.due("ends, then rows", Checks.reads("sheet 1 3;hand;may:near=0;", 3).ends(0), 3);
    }

    private static void refusedEnds() {
        Doc.promise(24, "-2.");
        LastMark x = walk();
        for (int h : new int[] {-1, 1, 4, Integer.MAX_VALUE, Integer.MIN_VALUE}) {
            Checks.due("ends(" + h + ")", x.ends(h), -2);
        }
    }
}
