/** Promises 15 to 24: longest, longWay, stuck, stuckWay, soonest, way, reach, ahead, rows, ends. */
public final class RowsTest {
    public static void main(String[] args) {
        walk();
        forced();
        walled();
        refusals();
        nothingLeft();
        twelve();
        whatIsAside();
        keptUpToDate();
        habitsAndHands();
        Checks.finish();
    }

    private static void longWay(LastMark x, int h, int c, int... cells) {
        Checks.due("longest(" + h + ", " + c + ")", x.longest(h, c), cells.length);
        for (int i = 0; i < cells.length; i++) {
            Checks.due("longWay(" + h + ", " + c + ", " + i + ")", x.longWay(h, c, i), cells[i]);
        }
        Checks.due("longWay's end", x.longWay(h, c, cells.length), -1);
        Checks.due("longWay far off", x.longWay(h, c, Integer.MAX_VALUE), -1);
        Checks.due("longWay(-1)", x.longWay(h, c, -1), -3);
    }

    private static void stuckWay(LastMark x, int h, int... cells) {
        Checks.due("stuck(" + h + ")", x.stuck(h), cells.length);
        for (int i = 0; i < cells.length; i++) {
            Checks.due("stuckWay(" + h + ", " + i + ")", x.stuckWay(h, i), cells[i]);
        }
        Checks.due("stuckWay's end", x.stuckWay(h, cells.length), -1);
        Checks.due("stuckWay(-1)", x.stuckWay(h, -1), -3);
    }

    private static void way(LastMark x, int h, int c, int... cells) {
        Checks.due("soonest(" + h + ", " + c + ")", x.soonest(h, c), cells.length == 0 ? -1 : cells.length);
        for (int i = 0; i < cells.length; i++) {
            Checks.due("way(" + h + ", " + c + ", " + i + ")", x.way(h, c, i), cells[i]);
        }
        Checks.due("way's end", x.way(h, c, cells.length), -1);
        Checks.due("way(-1)", x.way(h, c, -1), -3);
    }

    private static void rows(LastMark x, int h, long... counts) {
        for (int n = 0; n <= 12; n++) {
            Checks.due("rows(" + h + ", " + n + ")", x.rows(h, n), n < counts.length ? counts[n] : 0);
        }
    }

    /** From neighbour to neighbour along four cells, beginning anywhere. */
    private static void walk() {
        LastMark x = Checks.told("sheet 1 4;hand;may:far<2;");
        longWay(x, 0, 0, 1, 2, 3);
        longWay(x, 0, 1, 2, 3);
        longWay(x, 0, 2, 0, 1);
        longWay(x, 0, 3, 0, 1, 2);
        stuckWay(x, 0, 1, 0);
        way(x, 0, 3, 3);
        Checks.due("reach(0)", x.reach(0), 15);
        Checks.due("ahead(0, 3)", x.ahead(0, 3), 0);
        rows(x, 0, 1, 4, 6, 4, 2);
        Checks.due("ends(0)", x.ends(0), 6);
        Checks.due("longest behind counting", x.longest(0, 0), 3);
        Checks.due("rows behind longest", x.rows(0, 2), 6);
    }

    private static void forced() {
        LastMark x = Checks.told("sheet 1 4;last 0;hand;may:far<2;");
        longWay(x, 0, 3, 1, 2);
        longWay(x, 0, 1);
        stuckWay(x, 0, 1, 2, 3);
        way(x, 0, 3, 1, 2, 3);
        way(x, 0, 1, 1);
        Checks.due("reach(0)", x.reach(0), 14);
        Checks.due("ahead(0, 3)", x.ahead(0, 3), 6);
        Checks.due("ahead(0, 2)", x.ahead(0, 2), 2);
        Checks.due("ahead(0, 1)", x.ahead(0, 1), 0);
        rows(x, 0, 1, 1, 1, 1);
        Checks.due("ends(0)", x.ends(0), 1);
        LastMark two = Checks.told("sheet 2 3;last 0;hand;may:far<2;");
        way(two, 0, 5, 1, 2, 5);
        Checks.due("ahead by two ways", two.ahead(0, 5), 0);
        way(two, 0, 3, 3);
        longWay(two, 0, 5, 3, 4, 1, 2);
        longWay(two, 0, 1, 3, 4, 5, 2);
    }

    private static void walled() {
        LastMark x = Checks.told("sheet 1 4;last 0;drawn 2;hand;may:far<2;");
        Checks.due("reach(0)", x.reach(0), 2);
        way(x, 0, 3);
        Checks.due("ahead(0, 3)", x.ahead(0, 3), 0);
        longWay(x, 0, 3, 1);
        stuckWay(x, 0, 1);
        rows(x, 0, 1, 1);
        LastMark never = Checks.told("sheet 1 2;hand;may:1=2;");
        stuckWay(never, 0);
        longWay(never, 0, 1);
        way(never, 0, 0);
        Checks.due("reach(0)", never.reach(0), 0);
        rows(never, 0, 1);
        Checks.due("the row of no strokes", never.ends(0), 1);
    }

    private static void refusals() {
        LastMark x = Checks.told("sheet 1 3;drawn 1;hand;");
        int[][] pairs = {{1, 0}, {-1, 0}, {0, 3}, {0, -1}, {1, 1}};
        for (int[] p : pairs) {
            Checks.due("longest", x.longest(p[0], p[1]), -2);
            Checks.due("longWay", x.longWay(p[0], p[1], -1), -2);
            Checks.due("soonest", x.soonest(p[0], p[1]), -2);
            Checks.due("way", x.way(p[0], p[1], -1), -2);
            Checks.due("ahead", x.ahead(p[0], p[1]), -2);
        }
        Checks.due("longest of a drawn one", x.longest(0, 1), -5);
        Checks.due("longWay: -5 ahead of -3", x.longWay(0, 1, -1), -5);
        Checks.due("soonest of a drawn one", x.soonest(0, 1), -5);
        Checks.due("way: -5 ahead of -3", x.way(0, 1, -1), -5);
        Checks.due("ahead of a drawn one", x.ahead(0, 1), -5);
        Checks.due("stuck(1)", x.stuck(1), -2);
        Checks.due("stuck(-1)", x.stuck(-1), -2);
        Checks.due("stuckWay(1, -1)", x.stuckWay(1, -1), -2);
        Checks.due("reach(1)", x.reach(1), -2);
        Checks.due("rows(1, 13)", x.rows(1, 13), -2);
        Checks.due("rows(0, 13)", x.rows(0, 13), -3);
        Checks.due("rows(0, -1)", x.rows(0, -1), -3);
        Checks.due("ends(1)", x.ends(1), -2);
    }

    private static void nothingLeft() {
        LastMark x = Checks.told("sheet 1 1;drawn 0;hand;");
        stuckWay(x, 0);
        Checks.due("reach(0)", x.reach(0), 0);
        rows(x, 0, 1);
        Checks.due("ends(0)", x.ends(0), 1);
    }

    private static void twelve() {
        LastMark x = Checks.told("sheet 3 4;hand;");
        stuckWay(x, 0, 0, 1, 2, 3, 4, 5, 6, 7, 8, 9, 10, 11);
        longWay(x, 0, 5, 0, 1, 2, 3, 4, 6, 7, 8, 9, 10, 11);
        rows(x, 0, 1, 12, 132, 1320, 11880, 95040, 665280, 3991680, 19958400, 79833600, 239500800, 479001600, 479001600);
        Checks.due("ends(0)", x.ends(0), 479001600);
        LastMark all = Checks.told("sheet 3 4;hand;may:far+last+near+left<99;");
        rows(all, 0, 1, 12, 132, 1320, 11880, 95040, 665280, 3991680, 19958400, 79833600, 239500800, 479001600, 479001600);
        stuckWay(all, 0, 0, 1, 2, 3, 4, 5, 6, 7, 8, 9, 10, 11);
        LastMark snake = Checks.told("sheet 3 4;hand;may:far<2;");
        stuckWay(snake, 0, 1, 5, 4, 0);
        Checks.due("neighbours in pairs", snake.rows(0, 2), 34);
        Checks.due("soonest(0, 11)", snake.soonest(0, 11), 1);
        snake.stroke(0, 0);
        way(snake, 0, 11, 1, 2, 3, 7, 11);
    }

    /** Rows are strokes alone: X is aside, found or not. */
    private static void whatIsAside() {
        LastMark x = Checks.told("sheet 1 3;hand;");
        x.hide(0);
        stuckWay(x, 0, 0, 1, 2);
        x.stroke(0, 0);
        Checks.due("found", x.count(7), 1);
        stuckWay(x, 0, 1, 2);
        way(x, 0, 2, 2);
        rows(x, 0, 1, 2, 2);
        Checks.due("reach(0)", x.reach(0), 6);
    }

    /** What was worked out ahead of a deed isn't told behind it. */
    private static void keptUpToDate() {
        LastMark x = Checks.told("sheet 1 4;hand;may:cell<habit+2;");
        Checks.due("stuck", x.stuck(0), 2);
        x.habit(0, 2);
        Checks.due("stuck by another habit", x.stuck(0), 4);
        Checks.due("rows", x.rows(0, 1), 4);
        x.stroke(0, 0);
        Checks.due("rows behind a stroke", x.rows(0, 1), 3);
        x.undo(2);
        Checks.due("rows when undone", x.rows(0, 1), 2);
        x.image(0);
        Checks.tell(x, "sheet 1 2;hand;");
        Checks.due("rows of another sheet", x.rows(0, 1), 2);
        Checks.due("rows of another sheet", x.rows(0, 3), 0);
        x.restore(0);
        Checks.due("reach of the sheet restored", x.reach(0), 3);
    }

    private static void habitsAndHands() {
        LastMark x = Checks.told("sheet 1 4;hand;hand habit 1;may:cell>hand+habit;");
        Checks.due("reach(0)", x.reach(0), 14);
        Checks.due("reach(1)", x.reach(1), 8);
        Checks.due("reach(0)", x.reach(0), 14);
        LastMark left = Checks.told("sheet 1 4;hand;may:cell=4-left;");
        stuckWay(left, 0, 0, 1, 2, 3);
        Checks.due("ahead(0, 2)", left.ahead(0, 2), 3);
        LastMark near = Checks.told("sheet 1 4;hand;may:near=0;");
        stuckWay(near, 0, 0, 2);
        rows(near, 0, 1, 4, 6);
        longWay(near, 0, 0, 1, 3);
    }
}
