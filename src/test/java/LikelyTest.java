/** Promises 25 to 30, 36 and 37: likely, safest, likeliest, wins, best, lasts, chance, latest. */
public final class LikelyTest {
    public static void main(String[] args) {
        likely();
        safest();
        likeliest();
        games();
        gamesOfTwo();
        gameRefusals();
        chances();
        chanceRefusals();
        latest();
        Checks.finish();
    }

    private static void likely(LastMark x, int c, int above, int below) {
        Checks.due("likely(" + c + ", 0)", x.likely(c, 0), above);
        Checks.due("likely(" + c + ", 1)", x.likely(c, 1), below);
    }

    private static void likely() {
        LastMark x = Checks.told("sheet 1 4;hand;odds:cell*2;");
        likely(x, 0, 0, 1);
        likely(x, 1, 1, 6);
        likely(x, 2, 1, 3);
        likely(x, 3, 1, 2);
        x.stroke(0, 3);
        likely(x, 2, 2, 3);
        likely(x, 3, 0, 1);
        Checks.due("likely(4, 0)", x.likely(4, 0), -2);
        Checks.due("likely(-1, 0)", x.likely(-1, 0), -2);
        Checks.due("likely(0, 2)", x.likely(0, 2), -2);
        Checks.due("likely(0, -1)", x.likely(0, -1), -2);
        x.stroke(0, 1);
        x.stroke(0, 2);
        Checks.due("all odds are 0", x.likely(0, 0), -1);
        Checks.due("all odds are 0", x.likely(0, 1), -1);
        Checks.due("-2 ahead of NONE", x.likely(0, 2), -2);
        likely(Checks.told("sheet 1 5;"), 4, 1, 5);
        likely(Checks.told("sheet 3 4;odds:999;"), 4, 1, 12);
        likely(Checks.told("sheet 1 1;"), 0, 1, 1);
    }

    private static void safe(LastMark x, int n, int above, int below, int... cells) {
        Checks.due("safest(0, " + n + ", 0)", x.safest(0, n, 0), above);
        Checks.due("safest(0, " + n + ", 1)", x.safest(0, n, 1), below);
        for (int i = 0; i < 12; i++) {
            Checks.due("safest(0, " + n + ", " + (10 + i) + ")", x.safest(0, n, 10 + i), i < cells.length ? cells[i] : -1);
        }
    }

    private static void safest() {
        LastMark x = Checks.told("sheet 1 4;hand;odds:4-cell;");
        safe(x, 0, 1, 1);
        safe(x, 1, 9, 10, 3);
        safe(x, 2, 7, 10, 2, 3);
        safe(x, 3, 2, 5, 1, 2, 3);
        safe(x, 4, 0, 1, 0, 1, 2, 3);
        safe(x, 5, -1, -1);
        safe(x, 12, -1, -1);
        Checks.due("safest(1, 1, 0)", x.safest(1, 1, 0), -2);
        Checks.due("safest(-1, 1, 0)", x.safest(-1, 1, 0), -2);
        Checks.due("safest(0, 1, 2)", x.safest(0, 1, 2), -2);
        Checks.due("safest(0, 1, 9)", x.safest(0, 1, 9), -2);
        Checks.due("safest(0, 1, 22)", x.safest(0, 1, 22), -2);
        Checks.due("safest(0, 1, -1)", x.safest(0, 1, -1), -2);
        Checks.due("-2 ahead of -3", x.safest(0, 13, 2), -2);
        Checks.due("safest(0, 13, 0)", x.safest(0, 13, 0), -3);
        Checks.due("safest(0, -1, 0)", x.safest(0, -1, 0), -3);
        LastMark none = Checks.told("sheet 1 2;hand;odds:0;");
        Checks.due("all odds are 0", none.safest(0, 0, 0), -1);
        Checks.due("all odds are 0", none.safest(0, 1, 10), -1);
        Checks.due("-3 ahead of NONE", none.safest(0, 13, 0), -3);
        LastMark now = Checks.told("sheet 1 4;hand;may:far<2;odds:1+near*100;");
        safe(now, 2, 1, 2, 0, 1);
        LastMark walk = Checks.told("sheet 2 3;row 0 0 5 0;row 1 1 1 0;last 0;hand;may:far<2;odds:kind;");
        safe(walk, 3, 5, 7, 3, 4, 5);
        safe(walk, 5, 0, 1, 1, 2, 5, 4, 3);
    }

    private static void likeliest() {
        LastMark x = Checks.told("sheet 1 4;hand;row 0 2 7 7 1;odds:kind;");
        Checks.due("the first of the greatest", x.likeliest(), 1);
        x.stroke(0, 1);
        Checks.due("that isn't drawn", x.likeliest(), 2);
        x.stroke(0, 2);
        x.stroke(0, 0);
        Checks.due("the last one left", x.likeliest(), 3);
        x.stroke(0, 3);
        Checks.due("none is left", x.likeliest(), -1);
        Checks.due("all are 0", Checks.told("sheet 1 4;odds:0-cell;").likeliest(), -1);
        Checks.due("without a law", Checks.told("sheet 1 4;drawn 0;").likeliest(), 1);
    }

    private static void game(LastMark x, int h, int g, int other, int wins, int best, int lasts) {
        String of = "(" + h + ", " + g + ", " + other + ")";
        Checks.due("wins" + of, x.wins(h, g, other), wins);
        Checks.due("best" + of, x.best(h, g, other), best);
        Checks.due("lasts" + of, x.lasts(h, g, other), lasts);
    }

    private static void games() {
        LastMark free = Checks.told("sheet 1 3;hand;");
        game(free, 0, 0, 0, 1, 0, 3);
        game(free, 0, 0, 1, 0, -1, 3);
        LastMark full = Checks.told("sheet 1 1;drawn 0;hand;");
        game(full, 0, 0, 0, 0, -1, 0);
        game(full, 0, 0, 1, 1, -1, 0);
        LastMark three = Checks.told("sheet 1 3;hand;may:near=0;");
        game(three, 0, 0, 0, 1, 1, 1);
        game(three, 0, 0, 1, 1, 0, 2);
        LastMark four = Checks.told("sheet 1 4;hand;may:near=0;");
        game(four, 0, 0, 0, 0, -1, 2);
        game(four, 0, 0, 1, 1, 0, 2);
        LastMark five = Checks.told("sheet 1 5;hand;may:near=0;");
        game(five, 0, 0, 0, 1, 2, 3);
        game(five, 0, 0, 1, 1, 1, 2);
        LastMark seven = Checks.told("sheet 1 7;hand;may:near=0;");
        game(seven, 0, 0, 0, 1, 1, 3);
        LastMark twelve = Checks.told("sheet 3 4;hand;may:far<9;");
        game(twelve, 0, 0, 0, 0, -1, 12);
        game(twelve, 0, 0, 1, 1, 0, 12);
        three.hide(0);
        three.stroke(0, 0);
        game(three, 0, 0, 0, 1, 2, 1);
    }

    private static void gamesOfTwo() {
        LastMark one = Checks.told("sheet 1 3;hand;hand;may:hand=0;");
        game(one, 0, 1, 0, 1, 0, 1);
        game(one, 1, 0, 0, 0, -1, 0);
        game(one, 0, 1, 1, 0, -1, 1);
        game(one, 1, 0, 1, 1, -1, 0);
        game(one, 0, 0, 0, 1, 0, 3);
        LastMark halves = Checks.told("sheet 1 5;hand;hand;may:hand=0 and cell<3 or hand=1 and cell>2;");
        game(halves, 0, 1, 0, 1, 0, 5);
        game(halves, 1, 0, 0, 0, -1, 4);
        game(halves, 1, 0, 1, 1, 3, 4);
    }

    private static void gameRefusals() {
        LastMark x = Checks.told("sheet 1 3;hand;hand;");
        int[][] no = {{2, 0, 0}, {0, 2, 0}, {-1, 0, 0}, {0, -1, 0}, {0, 1, 2}, {0, 1, -1}};
        for (int[] n : no) {
            game(x, n[0], n[1], n[2], -2, -2, -2);
        }
    }

    private static void chance(LastMark x, int c, int n, long above, long below) {
        Checks.due("chance(0, " + c + ", " + n + ", 0)", x.chance(0, c, n, 0), above);
        Checks.due("chance(0, " + c + ", " + n + ", 1)", x.chance(0, c, n, 1), below);
    }

    private static void chances() {
        LastMark free = Checks.told("sheet 1 3;hand;");
        chance(free, 1, 0, 0, 1);
        chance(free, 1, 1, 1, 3);
        chance(free, 1, 2, 2, 3);
        chance(free, 1, 3, 1, 1);
        chance(free, 1, 4, 1, 1);
        LastMark walk = Checks.told("sheet 1 3;hand;may:far<2;");
        chance(walk, 0, 2, 1, 2);
        chance(walk, 1, 2, 1, 1);
        chance(walk, 2, 2, 1, 2);
        chance(walk, 0, 3, 5, 6);
        chance(walk, 0, 4, 5, 6);
        LastMark twelve = Checks.told("sheet 3 4;hand;");
        chance(twelve, 7, 4, 1, 3);
        chance(twelve, 7, 3, 1, 4);
        LastMark drawn = Checks.told("sheet 1 3;last 1;hand;may:1=2;");
        chance(drawn, 1, 0, 1, 1);
        chance(drawn, 1, 4, 1, 1);
        chance(drawn, 0, 4, 0, 1);
        LastMark odd = Checks.told("sheet 3 4;hand;may:[far<2 or last=9] and not cell=0;");
        chance(odd, 5, 1, 1, 11);
        chance(odd, 1, 2, 19, 132);
        odd.hide(5);
        odd.stroke(0, 5);
        chance(odd, 6, 1, 1, 4);
    }

    private static void chanceRefusals() {
        LastMark x = Checks.told("sheet 1 3;drawn 0;hand;");
        int[][] no = {{1, 0, 0, 0}, {-1, 0, 0, 0}, {0, 3, 0, 0}, {0, -1, 0, 0}, {0, 0, 0, 2}, {0, 0, 0, -1}, {0, 0, 5, 2}};
        for (int[] n : no) {
            Checks.due("chance -2", x.chance(n[0], n[1], n[2], n[3]), -2);
        }
        Checks.due("chance(0, 0, 5, 0) of a drawn one", x.chance(0, 0, 5, 0), -3);
        Checks.due("chance(0, 1, -1, 1)", x.chance(0, 1, -1, 1), -3);
        Checks.due("latest(1, 5)", x.latest(1, 5), -2);
        Checks.due("latest(-1, 0)", x.latest(-1, 0), -2);
        Checks.due("latest(0, 5)", x.latest(0, 5), -3);
        Checks.due("latest(0, -1)", x.latest(0, -1), -3);
    }

    private static void latest() {
        LastMark walk = Checks.told("sheet 1 3;hand;may:far<2;");
        Checks.due("latest(0, 2)", walk.latest(0, 2), 0);
        Checks.due("latest(0, 1)", walk.latest(0, 1), 0);
        LastMark some = Checks.told("sheet 1 4;drawn 0;hand;may:cell<3;");
        Checks.due("latest(0, 0)", some.latest(0, 0), 1);
        Checks.due("latest(0, 1)", some.latest(0, 1), 3);
        Checks.due("latest(0, 4)", some.latest(0, 4), 3);
        LastMark middle = Checks.told("sheet 1 4;last 0;hand;may:far<3;");
        Checks.due("latest(0, 1)", middle.latest(0, 1), 3);
        Checks.due("latest(0, 2)", middle.latest(0, 2), 3);
        Checks.due("all are drawn", Checks.told("sheet 1 1;drawn 0;hand;").latest(0, 2), -1);
        middle.habit(0, 1);
        Checks.due("behind a deed", middle.latest(0, 1), 3);
    }
}
