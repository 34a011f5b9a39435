/** The edges of promises 25 to 30: likely, safest, likeliest, wins, best, lasts. */
public final class EdgeLikelyTest {
    public static void main(String[] args) {
        likelyInLowestTerms();
        likelyWithoutOdds();
        refusedLikely();
        safestRow();
        oddsAsTheyAreNow();
        notFoundByThem();
        stepsOfTheSafest();
        noneSafest();
        refusedSafest();
        likeliest();
        likeliestOfNone();
        gameOfTwoHands();
        whoMayDrawNone();
        refusedWins();
        firstByWhichItWins();
        losesOrHasWon();
        refusedBest();
        asSoonAsCanBeOrAsLate();
        refusedLasts();
        Checks.finish();
    }

    private static void likely(LastMark x, int c, int above, int below) {
        Checks.due("likely(" + c + ", 0)", x.likely(c, 0), above);
        Checks.due("likely(" + c + ", 1)", x.likely(c, 1), below);
    }

    private static void likelyInLowestTerms() {
        Doc.promise(25, "How likely one is to be found at a CELL: its ODDS to those of all, in lowest terms, what 0: the number "
            + "above, 1: below.");
        LastMark x = Checks.reads("sheet 1 4;odds:cell*2;drawn 3;", 3);
        likely(x, 0, 0, 1);
        likely(x, 1, 1, 3);
        likely(x, 2, 2, 3);
        likely(x, 3, 0, 1);
        likely(new LastMark(), 0, 1, 1);
        likely(Checks.reads("sheet 3 4;odds:999;", 2), 11, 1, 12);
        LastMark prime = Checks.reads("sheet 3 4;row 0 1 0 0 0;odds:999-kind;", 3);
        likely(prime, 0, 998, 11987);
        likely(prime, 1, 999, 11987);
        likely(Checks.reads("sheet 1 2;odds:cell;", 2), 1, 1, 1);
    }

    private static void likelyWithoutOdds() {
        Doc.promise(25, "NONE: all ODDS are 0;");
        LastMark zero = Checks.reads("sheet 1 2;odds:0;", 2);
        likely(zero, 0, -1, -1);
        likely(zero, 1, -1, -1);
        likely(Checks.reads("sheet 1 1;drawn 0;", 2), 0, -1, -1);
        likely(Checks.reads("sheet 1 2;drawn 1;odds:cell;", 3), 0, -1, -1);
        likely(Checks.reads("sheet 1 2;odds:0-9;", 2), 0, -1, -1);
    }

    private static void refusedLikely() {
        Doc.promise(25, "-2.");
        LastMark x = Checks.reads("sheet 1 2;odds:0;", 2);
        int[][] no = {{-1, 0}, {2, 0}, {0, -1}, {0, 2}, {2, 2}, {Integer.MAX_VALUE, 0}, {0, Integer.MIN_VALUE}, {33, 1}};
        for (int[] n : no) {
            Checks.due("likely(" + n[0] + ", " + n[1] + ")", x.likely(n[0], n[1]), -2);
        }
    }

    private static void safe(LastMark x, int n, int above, int below, int... cells) {
        Checks.due("safest(0, " + n + ", 0)", x.safest(0, n, 0), above);
        Checks.due("safest(0, " + n + ", 1)", x.safest(0, n, 1), below);
        for (int i = 0; i < 12; i++) {
            Checks.due("safest(0, " + n + ", " + (10 + i) + ")", x.safest(0, n, 10 + i), i < cells.length ? cells[i] : -1);
        }
    }

    private static void safestRow() {
        Doc.promise(26, "SAFEST n STROKES (0 to 12),");
        Doc.terms("SAFEST n STROKES: a ROW of n that has the least ODDS of its CELLS together,");
        LastMark x = Checks.reads("sheet 3 4;hand;odds:12-cell;", 3);
        safe(x, 0, 1, 1);
        safe(x, 1, 77, 78, 11);
        safe(x, 2, 25, 26, 10, 11);
        safe(x, 11, 2, 13, 1, 2, 3, 4, 5, 6, 7, 8, 9, 10, 11);
        safe(x, 12, 0, 1, 0, 1, 2, 3, 4, 5, 6, 7, 8, 9, 10, 11);
        safe(Checks.reads("sheet 1 4;hand;last 1;may:far<2;row 0 5 0 1 1;odds:kind;", 6), 1, 6, 7, 2);
        safe(Checks.reads("sheet 2 2;hand;may:far<2;row 0 3 3;row 1 3 3;odds:kind;", 6), 2, 1, 2, 0, 1);
    }

    private static void oddsAsTheyAreNow() {
        Doc.terms("as they are now, of like ones the first;");
        LastMark x = Checks.reads("sheet 1 4;hand;odds:1+near*100;", 3);
        safe(x, 2, 1, 2, 0, 1);
        x.stroke(0, 1);
        safe(x, 1, 202, 203, 3);
        safe(x, 2, 101, 203, 0, 3);
        safe(x, 3, 0, 1, 0, 2, 3);
    }

    private static void notFoundByThem() {
        Doc.terms("how likely one isn't found by them: ODDS now of all other CELLS to those of all, in lowest terms.");
        Doc.promise(26, "what 0, 1: how likely one isn't found, above, below,");
        LastMark x = Checks.reads("sheet 1 3;hand;row 0 2 4 6;odds:kind;", 4);
        safe(x, 0, 1, 1);
        safe(x, 1, 5, 6, 0);
        safe(x, 2, 1, 2, 0, 1);
        safe(x, 3, 0, 1, 0, 1, 2);
        safe(Checks.reads("sheet 1 3;hand;drawn 0;odds:999;", 4), 1, 1, 2, 1);
        safe(Checks.reads("sheet 1 3;hand;may:cell<2;odds:cell*cell;", 4), 2, 4, 5, 0, 1);
    }

    private static void stepsOfTheSafest() {
        Doc.promise(26, "10 + i: the i-th CELL (NONE: not so many).");
        LastMark x = Checks.reads("sheet 3 4;hand;", 2);
        Checks.due("safest(0, 12, 21)", x.safest(0, 12, 21), 11);
        Checks.due("safest(0, 11, 21)", x.safest(0, 11, 21), -1);
        Checks.due("safest(0, 0, 10)", x.safest(0, 0, 10), -1);
        Checks.due("safest(0, 1, 10)", x.safest(0, 1, 10), 0);
        Checks.due("safest(0, 1, 11)", x.safest(0, 1, 11), -1);
    }

    private static void noneSafest() {
        Doc.promise(26, "NONE: there are no n STROKES, all ODDS are 0;");
        safe(Checks.reads("sheet 1 2;hand;", 2), 3, -1, -1);
        safe(Checks.reads("sheet 1 2;hand;", 2), 12, -1, -1);
        safe(Checks.reads("sheet 1 2;hand;may:1=2;", 3), 1, -1, -1);
        safe(Checks.reads("sheet 1 4;hand;last 0;drawn 2;may:far<2;", 5), 2, -1, -1);
        safe(Checks.reads("sheet 1 2;hand;odds:0;", 3), 0, -1, -1);
        safe(Checks.reads("sheet 1 2;hand;odds:0;", 3), 1, -1, -1);
        safe(Checks.reads("sheet 1 1;hand;drawn 0;", 3), 0, -1, -1);
    }

    private static void refusedSafest() {
        Doc.promise(26, "-2: the HAND, what (10 to 21); -3: n.");
        LastMark x = Checks.reads("sheet 1 2;hand;odds:0;", 3);
        int[][] due = {{-1, 0, 0, -2}, {1, 0, 0, -2}, {0, 0, -1, -2}, {0, 0, 2, -2}, {0, 0, 9, -2}, {0, 0, 22, -2},
            {0, 0, Integer.MAX_VALUE, -2}, {0, 0, Integer.MIN_VALUE, -2}, {0, 13, 2, -2}, {1, -1, 0, -2}, {0, 13, 0, -3},
            {0, -1, 0, -3}, {0, 13, 21, -3}, {0, Integer.MAX_VALUE, 10, -3}, {0, Integer.MIN_VALUE, 1, -3}, {0, 12, 21, -1}};
        for (int[] d : due) {
            Checks.due("safest(" + d[0] + ", " + d[1] + ", " + d[2] + ")", x.safest(d[0], d[1], d[2]), d[3]);
        }
    }

    private static void likeliest() {
        Doc.promise(27, "The CELL that isn't DRAWN of the greatest ODDS, the first.");
        Checks.due("one cell", new LastMark().likeliest(), 0);
        Checks.due("the first of like ones", Checks.reads("sheet 3 4;", 1).likeliest(), 0);
        Checks.due("the first that isn't drawn", Checks.reads("sheet 3 4;drawn 0;", 2).likeliest(), 1);
        Checks.due("the last one", Checks.reads("sheet 3 4;odds:cell;", 2).likeliest(), 11);
        Checks.due("kept at 999", Checks.reads("sheet 3 4;odds:cell*500;", 2).likeliest(), 2);
        Checks.due("the only one above 0", Checks.reads("sheet 3 4;odds:cell-10;", 2).likeliest(), 11);
    }

    private static void likeliestOfNone() {
        Doc.promise(27, "NONE: all are 0.");
        Checks.due("by the law", Checks.reads("sheet 3 4;odds:0;", 2).likeliest(), -1);
        Checks.due("below 0", Checks.reads("sheet 3 4;odds:0-cell;", 2).likeliest(), -1);
        Checks.due("all drawn", Checks.reads("sheet 1 1;drawn 0;odds:5;", 3).likeliest(), -1);
    }

    private static void game(LastMark x, int h, int g, int other, int wins, int best, int lasts) {
        String of = "(" + h + ", " + g + ", " + other + ")";
        Checks.due("wins" + of, x.wins(h, g, other), wins);
        Checks.due("best" + of, x.best(h, g, other), best);
        Checks.due("lasts" + of, x.lasts(h, g, other), lasts);
    }

    private static void gameOfTwoHands() {
        Doc.terms("THE GAME of two HANDS (one and the same, too): by turns each draws a CELL, the first one now; who may draw none "
            + "loses (or, in the other game, wins).");
        LastMark one = Checks.reads("sheet 1 3;hand;hand;may:hand=0;", 4);
        game(one, 0, 0, 0, 1, 0, 3);
        game(one, 0, 0, 1, 0, -1, 3);
        game(one, 0, 1, 0, 1, 0, 1);
        game(one, 0, 1, 1, 0, -1, 1);
        game(one, 1, 0, 0, 0, -1, 0);
        game(one, 1, 0, 1, 1, -1, 0);
        game(one, 1, 1, 0, 0, -1, 0);
        game(one, 0, 1, 0, 1, 0, 1);
        game(one, 1, 1, 1, 1, -1, 0);
        game(one, 0, 1, 1, 0, -1, 1);
        LastMark halves = Checks.reads("sheet 1 5;hand;hand;may:hand=0 and cell<3 or hand=1 and cell>2;", 4);
        game(halves, 0, 1, 0, 1, 0, 5);
        game(halves, 1, 0, 0, 0, -1, 4);
        game(halves, 1, 0, 1, 1, 3, 4);
        LastMark behind = Checks.reads("sheet 1 4;hand habit 1;hand habit 2;may:far=habit or last=9;", 4);
        game(behind, 0, 1, 0, 0, -1, 4);
        game(behind, 0, 1, 1, 1, 0, 4);
    }

    private static void whoMayDrawNone() {
        Doc.promise(28, "Whether the first HAND wins THE GAME, other 0: who may draw none loses, 1: wins: 1 if so, else 0.");
        LastMark full = Checks.reads("sheet 1 1;hand;drawn 0;", 3);
        game(full, 0, 0, 0, 0, -1, 0);
        game(full, 0, 0, 1, 1, -1, 0);
        LastMark single = Checks.reads("sheet 1 1;hand;", 2);
        game(single, 0, 0, 0, 1, 0, 1);
        game(single, 0, 0, 1, 0, -1, 1);
        LastMark pair = Checks.reads("sheet 1 2;hand;", 2);
        game(pair, 0, 0, 0, 0, -1, 2);
        game(pair, 0, 0, 1, 1, 0, 2);
        LastMark twelve = Checks.reads("sheet 3 4;hand;may:far<9;", 3);
        game(twelve, 0, 0, 0, 0, -1, 12);
        game(twelve, 0, 0, 1, 1, 0, 12);
        LastMark never = Checks.reads("sheet 3 4;hand;may:1=2;", 3);
        game(never, 0, 0, 0, 0, -1, 0);
        game(never, 0, 0, 1, 1, -1, 0);
    }

    private static final int[][] NO_GAME = {{-1, 0, 0}, {2, 0, 0}, {0, -1, 0}, {0, 2, 0}, {0, 0, -1}, {0, 0, 2}, {4, 4, 4},
        {Integer.MAX_VALUE, 0, 0}, {0, Integer.MIN_VALUE, 0}, {0, 0, Integer.MAX_VALUE}};

    private static void refusedWins() {
        Doc.promise(28, "-2: HANDS, other.");
        LastMark x = Checks.reads("sheet 1 3;hand;hand;", 3);
        for (int[] n : NO_GAME) {
            Checks.due("wins(" + n[0] + ", " + n[1] + ", " + n[2] + ")", x.wins(n[0], n[1], n[2]), -2);
        }
    }

    private static void firstByWhichItWins() {
        Doc.promise(29, "The first CELL by which it wins.");
        Checks.due("asked first of all", Checks.reads("sheet 1 3;hand;may:near=0;", 3).best(0, 0, 0), 1);
        Checks.due("asked first of all", Checks.reads("sheet 1 3;hand;may:near=0;", 3).best(0, 0, 1), 0);
        game(Checks.reads("sheet 1 3;hand;may:near=0;", 3), 0, 0, 0, 1, 1, 1);
        game(Checks.reads("sheet 1 3;hand;may:near=0;", 3), 0, 0, 1, 1, 0, 2);
        game(Checks.reads("sheet 1 5;hand;may:near=0;", 3), 0, 0, 0, 1, 2, 3);
        game(Checks.reads("sheet 1 7;hand;may:near=0;", 3), 0, 0, 0, 1, 1, 3);
        game(Checks.reads("sheet 1 6;hand;may:near=0;", 3), 0, 0, 0, 1, 0, 3);
    }

    private static void losesOrHasWon() {
        Doc.promise(29, "NONE: it loses, it has won;");
        game(Checks.reads("sheet 1 4;hand;may:near=0;", 3), 0, 0, 0, 0, -1, 2);
        LastMark full = Checks.reads("sheet 1 1;hand;drawn 0;", 3);
        Checks.due("it loses", full.best(0, 0, 0), -1);
        Checks.due("it has won", full.best(0, 0, 1), -1);
    }

    private static void refusedBest() {
        Doc.promise(29, "-2.");
        LastMark x = Checks.reads("sheet 1 3;hand;hand;", 3);
        for (int[] n : NO_GAME) {
            Checks.due("best(" + n[0] + ", " + n[1] + ", " + n[2] + ")", x.best(n[0], n[1], n[2]), -2);
        }
    }

    private static void asSoonAsCanBeOrAsLate() {
        Doc.promise(30, "How many STROKES there are in it, if who wins ends it as soon as can be, who loses as late.");
        Checks.due("asked first of all", Checks.reads("sheet 1 3;hand;may:near=0;", 3).lasts(0, 0, 1), 2);
        Checks.due("none", Checks.reads("sheet 1 1;hand;drawn 0;", 3).lasts(0, 0, 0), 0);
        Checks.due("all twelve", Checks.reads("sheet 3 4;hand;", 2).lasts(0, 0, 0), 12);
        Checks.due("who wins ends it by one", Checks.reads("sheet 1 3;hand;may:near=0;", 3).lasts(0, 0, 0), 1);
        LastMark late = Checks.reads("sheet 1 6;hand;may:last=9 or last=kind;row 0 1 1 2 2 2 2;", 4);
        game(late, 0, 0, 0, 0, -1, 4);
        game(late, 0, 0, 1, 1, 0, 2);
        LastMark soon = Checks.reads("sheet 1 6;hand;may:last=9 or last=kind;row 0 1 1 1 2 3 3;", 4);
        game(soon, 0, 0, 0, 1, 0, 1);
    }

    private static void refusedLasts() {
        Doc.promise(30, "-2.");
        LastMark x = Checks.reads("sheet 1 3;hand;hand;", 3);
        for (int[] n : NO_GAME) {
            Checks.due("lasts(" + n[0] + ", " + n[1] + ", " + n[2] + ")", x.lasts(n[0], n[1], n[2]), -2);
        }
    }
}
