/** The edges of "Terms" from "==== 2." to "==== 3.": laws, odds, deeds, why not, what can be undone. */
public final class EdgeLawsTest {
    public static void main(String[] args) {
        neighbours();
        cellAndKind();
        nearAndLeft();
        handAndHabit();
        lastAndFar();
        keptWithinAMillion();
        strokes();
        oddsKeptWithin();
        oddsOfDrawnOnes();
        hiding();
        onceFound();
        rubbing();
        whyNotOne();
        whyNotTwo();
        whyNotThree();
        deedsOfStrokes();
        otherDeeds();
        deedsBeyondAnInt();
        undoneAsAWhole();
        tenAtMost();
        whatIsBroughtBack();
        Checks.finish();
    }

    /** On every sheet there is, each cell beside each other one. */
    private static void neighbours() {
        Doc.terms("Two CELLS side by side, or one above the other one, are NEIGHBOURS.");
        for (int rows = 1; rows <= 12; rows++) {
            for (int columns = 1; rows * columns <= 12; columns++) {
                for (int d = 0; d < rows * columns; d++) {
                    besideOne(rows, columns, d);
                }
            }
        }
        LastMark x = Checks.reads("sheet 2 3;last 2;", 2);
        Checks.due("the end of a row and the next one's beginning", x.cell(3, 2), 0);
        Checks.due("they are three steps off", x.cell(3, 5), 3);
    }

    private static void besideOne(int rows, int columns, int d) {
        LastMark x = Checks.reads("sheet " + rows + " " + columns + ";last " + d + ";", 2);
        for (int c = 0; c < rows * columns; c++) {
            int steps = Math.abs(c / columns - d / columns) + Math.abs(c % columns - d % columns);
            Checks.due("neighbours of " + c, x.cell(c, 2), steps == 1 ? 1 : 0);
            Checks.due("steps of " + c, x.cell(c, 5), steps);
        }
    }

    private static void cellAndKind() {
        Doc.terms("In both laws: cell: its number, kind: its KIND,");
        String rows = "sheet 3 4;row 0 0 1 2 3;row 1 4 5 6 7;row 2 8 0 8 1;hand;";
        LastMark numbers = Checks.reads(rows + "odds:cell;may:cell=11 or cell=0;", 7);
        LastMark kinds = Checks.reads(rows + "odds:kind;may:kind=8 or kind=0;", 7);
        int[] due = {0, 1, 2, 3, 4, 5, 6, 7, 8, 0, 8, 1};
        for (int c = 0; c < 12; c++) {
            Checks.due("odds by cell", numbers.cell(c, 3), c);
            Checks.due("odds by kind", kinds.cell(c, 3), due[c]);
        }
        Checks.due("may by cell", numbers.hand(0, 1), 1 | 1 << 11);
        Checks.due("may by kind", kinds.hand(0, 1), 1 | 1 << 8 | 1 << 9 | 1 << 10);
    }

    private static void nearAndLeft() {
        Doc.terms("near: how many of its NEIGHBOURS are DRAWN, left: how many CELLS aren't DRAWN;");
        LastMark near = Checks.reads("sheet 3 3;hand;odds:near;may:near=habit;", 4);
        int[] cells = {1, 3, 5, 7};
        for (int i = 0; i <= 4; i++) {
            Checks.due("odds of the middle", near.cell(4, 3), i);
            near.habit(0, i);
            Checks.due("may the middle", near.cell(4, 4), 1);
            near.habit(0, 0);
            if (i < 4) {
                Checks.due("a stroke beside it", near.stroke(0, cells[i]), 8 - i);
            }
        }
        LastMark left = Checks.reads("sheet 3 4;hand;odds:left;may:left+habit=12;", 4);
        Checks.due("nothing is drawn", left.cell(11, 3), 12);
        for (int c = 0; c < 9; c++) {
            left.habit(0, c);
            Checks.due("a stroke", left.stroke(0, c), 11 - c);
            Checks.due("by the same habit no more", left.stroke(0, c + 1), -13);
        }
        Checks.due("three are left", left.cell(11, 3), 3);
        for (int n = 0; n <= 4; n++) {
            LastMark cross = Checks.reads("sheet 3 3;hand;may:near=" + n + " or cell=1 or cell=3 or cell=5 or cell=7;", 3);
            Checks.due("the middle behind " + n + " neighbours", cross.soonest(0, 4), n + 1);
        }
        LastMark one = Checks.reads("sheet 1 2;drawn 0;odds:left;hand;may:left=1;", 5);
        Checks.due("one is left", one.cell(1, 3), 1);
        Checks.due("it may be drawn", one.stroke(0, 1), 0);
    }

    private static void handAndHabit() {
        Doc.terms("hand, habit: the HAND's number, its HABIT;");
        LastMark x = Checks.reads("sheet 1 12;hand habit 9;hand;hand habit 5;hand habit 1;may:cell=hand or cell=habit+2;", 6);
        int[] due = {1 | 1 << 11, 2 | 1 << 2, 1 << 2 | 1 << 7, 1 << 3};
        for (int h = 0; h < 4; h++) {
            Checks.due("hand " + h, x.hand(h, 1), due[h]);
        }
        x.habit(3, 8);
        Checks.due("another habit", x.hand(3, 1), 1 << 3 | 1 << 10);
        Checks.due("the others stay", x.hand(2, 1), due[2]);
    }

    private static void lastAndFar() {
        Doc.terms("last: the KIND of the LAST CELL (9: there is none), far: how many steps from NEIGHBOUR to NEIGHBOUR it is "
            + "from the LAST one (0: there is none);");
        LastMark x = Checks.reads("sheet 1 4;row 0 8 0 1 2;drawn 3;hand;hand;may:hand=0 and last=9 or hand=1 and far=0;", 6);
        Checks.due("none: last is 9", x.hand(0, 1), 7);
        Checks.due("none: far is 0", x.hand(1, 1), 7);
        Checks.due("stroke(0, 0)", x.stroke(0, 0), 2);
        Checks.due("last is 8 then", x.hand(0, 1), 0);
        Checks.due("no cell is 0 steps off", x.hand(1, 1), 0);
        Checks.due("rub(0)", x.rub(0), 3);
        Checks.due("none again: last is 9", x.hand(0, 1), 7);
        Checks.due("none again: far is 0", x.hand(1, 1), 7);
        LastMark far = Checks.reads("sheet 1 12;row 0 0 0 0 0 0 0 0 0 0 0 0 8;last 0;hand;may:far=11 and last=0;", 5);
        Checks.due("eleven steps", far.hand(0, 1), 1 << 11);
        Checks.due("stroke(0, 11)", far.stroke(0, 11), 10);
        Checks.due("the last one's kind is 8", far.hand(0, 1), 0);
        LastMark kind = Checks.reads("sheet 1 2;row 0 0 8;last 1;hand;may:last=8;", 5);
        Checks.due("kind 8", kind.hand(0, 1), 1);
    }

    private static void equal(String sum, String other) {
        LastMark x = Checks.reads("sheet 1 1;hand;may:" + sum + "=" + other + ";", 3);
        Checks.due(sum + " = " + other, x.hand(0, 1), 1);
    }

    private static void keptWithinAMillion() {
        Doc.terms("each + - * is kept from -1,000,000 to 1,000,000.");
        String most = "(999*999+999+999+1)";
        String least = "(0-999*999-999-999-1)";
        LastMark x = Checks.reads("sheet 1 1;hand;may:999*999+999+999<" + most + " and 0-999*999-999-999>" + least + ";", 3);
        Checks.due("999,999 isn't yet kept down", x.hand(0, 1), 1);
        equal(most + "-" + most, "0");
        equal(most + "+1", most);
        equal(most + "+" + most, most);
        equal(most + "+1-1", most + "-1");
        equal(least + "-1", least);
        equal(least + "+" + least, least);
        equal(least + "-1+1", least + "+1");
        equal(least + "-" + most, least);
        equal("999*999*999", most);
        equal(most + "*" + most, most);
        equal(most + "*" + least, least);
        equal(least + "*" + least, most);
        equal("999*999*2", most);
        equal("(0-999*999)*2", least);
        equal("999*999*9-999*999-999-900", "100");
        Checks.due("odds by way of it", Checks.reads("sheet 1 1;odds:" + most + "*2-999*999-999;", 2).cell(0, 3), 999);
        Checks.due("odds by way of it", Checks.reads("sheet 1 1;odds:" + most + "*2-999*999-999-998;", 2).cell(0, 3), 2);
    }

    private static void strokes() {
        Doc.terms("A STROKE: a HAND draws a CELL that isn't DRAWN, if the law may holds (without one: always); it is the LAST "
            + "one then.");
        LastMark x = Checks.reads("sheet 1 3;hand;hand;", 3);
        Checks.due("all may be drawn", x.hand(1, 1), 7);
        Checks.due("stroke(0, 2)", x.stroke(0, 2), 2);
        Checks.due("the last one", x.count(5), 2);
        Checks.due("stroke(1, 0)", x.stroke(1, 0), 1);
        Checks.due("the last one", x.count(5), 0);
        Checks.due("it is drawn", x.stroke(0, 2), -12);
        Checks.due("stroke(0, 1)", x.stroke(0, 1), 0);
        Checks.due("all are drawn", x.count(4), 7);
        Checks.due("none may be drawn", x.hand(0, 1), 0);
        LastMark no = Checks.reads("sheet 1 3;hand;may:1=2;", 3);
        Checks.due("the law never holds", no.stroke(0, 0), -13);
        Checks.due("none is the last one", no.count(5), -1);
    }

    private static void odds(String law, int due) {
        Checks.due("odds: " + law, Checks.reads("sheet 1 1;odds:" + law + ";", 2).cell(0, 3), due);
    }

    private static void oddsKeptWithin() {
        Doc.terms("ODDS of a CELL: as the law odds tells, 0 at least, 999 at most (without one: 1);");
        odds("0-1", 0);
        odds("0-999*999", 0);
        odds("0", 0);
        odds("1", 1);
        odds("998", 998);
        odds("999", 999);
        odds("999+1", 999);
        odds("999*999", 999);
        Checks.due("without one", Checks.reads("sheet 1 1;", 1).cell(0, 3), 1);
        Checks.due("all together", Checks.reads("sheet 3 4;odds:999*2;", 2).count(8), 12 * 999);
        Checks.due("all together", Checks.reads("sheet 3 4;odds:cell-5;", 2).count(8), 21);
    }

    private static void oddsOfDrawnOnes() {
        Doc.terms("0 if it is DRAWN.");
        LastMark told = Checks.reads("sheet 1 2;drawn 0;odds:7;", 3);
        Checks.due("drawn", told.cell(0, 3), 0);
        Checks.due("not drawn", told.cell(1, 3), 7);
        LastMark none = Checks.reads("sheet 1 2;last 0;", 2);
        Checks.due("drawn, without a law", none.cell(0, 3), 0);
        Checks.due("all together", none.count(8), 1);
        Checks.due("all drawn", Checks.reads("sheet 1 1;last 0;odds:9;", 3).count(8), 0);
    }

    private static void hiding() {
        Doc.terms("To HIDE: the author will be found at a CELL that isn't DRAWN (X; a later one in its place).");
        LastMark x = Checks.reads("sheet 1 3;drawn 0;hand;", 3);
        Checks.due("there is no X", x.count(6), -1);
        Checks.due("a drawn one", x.hide(0), -12);
        Checks.due("there is still no X", x.count(6), -1);
        Checks.due("hide(2)", x.hide(2), -1);
        Checks.due("X", x.count(6), 2);
        Checks.due("a later one", x.hide(1), 2);
        Checks.due("X", x.count(6), 1);
        Checks.due("the one ahead doesn't count", x.stroke(0, 2), 1);
        Checks.due("not found", x.count(7), 0);
        Checks.due("stroke(0, 1)", x.stroke(0, 1), 0);
        Checks.due("found", x.count(7), 1);
    }

    private static void onceFound() {
        Doc.terms("Once X is DRAWN, the author is FOUND: nothing else can be DRAWN, RUBBED, HIDDEN.");
        LastMark x = Checks.reads("sheet 1 4;drawn 0;hand habit 3;", 3);
        x.hide(1);
        Checks.due("X isn't drawn: a stroke", x.stroke(0, 2), 2);
        Checks.due("X isn't drawn: rub", x.rub(2), 3);
        Checks.due("X is drawn", x.stroke(0, 1), 2);
        Checks.due("found", x.count(7), 1);
        Checks.due("nothing can be drawn", x.stroke(0, 3), -12);
        Checks.due("nothing can be rubbed", x.rub(0), -12);
        Checks.due("not X either", x.rub(1), -12);
        Checks.due("nothing can be hidden", x.hide(3), -12);
        Checks.due("nor at X", x.hide(1), -12);
        Checks.due("a habit can be had", x.habit(0, 4), 3);
        Checks.due("no such cell goes first", x.stroke(0, 4), -11);
        Checks.due("drawn as ahead", x.count(4), 3);
        Checks.due("the last one", x.count(5), 1);
        Checks.due("undone", x.undo(2), 3);
        Checks.due("not found then", x.count(7), 0);
        Checks.due("and it goes on", x.stroke(0, 3), 2);
    }

    private static void rubbing() {
        Doc.terms("To RUB a CELL: it isn't DRAWN any more (the LAST one: there is none then). To have a HABIT.");
        LastMark x = Checks.reads("sheet 1 3;drawn 0;last 2;hand;", 4);
        Checks.due("rub(0)", x.rub(0), 2);
        Checks.due("it isn't drawn", x.cell(0, 1), 0);
        Checks.due("another one is the last one still", x.count(5), 2);
        Checks.due("rub(2)", x.rub(2), 3);
        Checks.due("there is no last one", x.count(5), -1);
        Checks.due("the steps are 0", x.cell(0, 5), 0);
        Checks.due("stroke(0, 2)", x.stroke(0, 2), 2);
        Checks.due("stroke(0, 1)", x.stroke(0, 1), 1);
        Checks.due("rub(1)", x.rub(1), 2);
        Checks.due("not the one ahead of it either", x.count(5), -1);
        Checks.due("to have a habit", x.habit(0, 9), 0);
        Checks.due("its habit", x.hand(0, 0), 9);
        LastMark hidden = Checks.reads("sheet 1 2;hand;last 0;", 3);
        hidden.hide(1);
        Checks.due("rub beside X", hidden.rub(0), 2);
        Checks.due("X stays", hidden.count(6), 1);
    }

    private static void whyNotOne() {
        Doc.terms("Why not: 1 no such HAND, CELL, HABIT.");
        LastMark x = Checks.reads("sheet 1 3;drawn 1;hand;hand;may:1=2;", 5);
        int[][] strokes = {{-1, 0}, {2, 0}, {0, -1}, {0, 3}, {2, 3}, {2, 1}, {Integer.MAX_VALUE, 0},
            {0, Integer.MIN_VALUE}, {0, 32}, {0, 33}, {-1, 1}};
        for (int[] s : strokes) {
            Checks.due("stroke(" + s[0] + ", " + s[1] + ")", x.stroke(s[0], s[1]), -11);
        }
        for (int c : new int[] {-1, 3, 12, 32, 33, Integer.MAX_VALUE, Integer.MIN_VALUE}) {
            Checks.due("rub(" + c + ")", x.rub(c), -11);
            Checks.due("hide(" + c + ")", x.hide(c), -11);
        }
        int[][] habits = {{-1, 0}, {2, 0}, {0, -1}, {0, 10}, {2, 10}, {0, Integer.MAX_VALUE}, {Integer.MIN_VALUE, 3}};
        for (int[] n : habits) {
            Checks.due("habit(" + n[0] + ", " + n[1] + ")", x.habit(n[0], n[1]), -11);
        }
        Checks.due("nothing can be undone", x.count(9), 0);
        LastMark none = Checks.reads("sheet 1 1;", 1);
        Checks.due("no hands: a stroke", none.stroke(0, 0), -11);
        Checks.due("no hands: a habit", none.habit(0, 0), -11);
    }

    private static void whyNotTwo() {
        Doc.terms("2 the author is FOUND; the CELL is DRAWN (a STROKE, to HIDE), it isn't (to RUB).");
        LastMark x = Checks.reads("sheet 1 3;drawn 0;hand;may:cell=1;", 4);
        Checks.due("drawn: a stroke", x.stroke(0, 0), -12);
        Checks.due("drawn: to hide", x.hide(0), -12);
        Checks.due("not drawn: to rub", x.rub(1), -12);
        Checks.due("hide(1)", x.hide(1), -1);
        Checks.due("stroke(0, 1)", x.stroke(0, 1), 1);
        Checks.due("found, ahead of the law", x.stroke(0, 2), -12);
        Checks.due("found: to hide", x.hide(2), -12);
        Checks.due("found: to rub", x.rub(0), -12);
        Checks.due("found: not drawn", x.rub(2), -12);
    }

    private static void whyNotThree() {
        Doc.terms("3 the law may.");
        LastMark x = Checks.reads("sheet 1 3;drawn 0;hand;may:cell=1;", 4);
        Checks.due("the law", x.stroke(0, 2), -13);
        Checks.due("drawn goes ahead of the law", x.stroke(0, 0), -12);
        Checks.due("no such cell goes ahead of both", x.stroke(0, 3), -11);
        Checks.due("the law asks no one who hides", x.hide(2), -1);
        Checks.due("nor who rubs", x.rub(0), 3);
    }

    private static LastMark forDeeds() {
        return Checks.reads("sheet 2 3;hand;hand;drawn 1;may:not cell=5;", 5);
    }

    /** Why a deed can't be on the sheet for deeds, read off the document's list. */
    private static int whyNot(long v) {
        if (v >= 0 && v <= 399) {
            return v / 100 > 1 || v % 100 > 5 ? 1 : v % 100 == 1 ? 2 : v % 100 == 5 ? 3 : 0;
        }
        if (v >= 500 && v <= 599) {
            return v > 505 ? 1 : v == 501 ? 0 : 2;
        }
        if (v >= 600 && v <= 699) {
            return v > 619 ? 1 : 0;
        }
        if (v >= 700 && v <= 799) {
            return v > 705 ? 1 : v == 701 ? 2 : 0;
        }
        return 1;
    }

    private static void judged(LastMark x, long v, int drawn) {
        Checks.fill(x, 0, 3, v);
        int why = whyNot(v);
        Checks.due("place of deed " + v, x.judge(0, 0), why == 0 ? -1 : 0);
        Checks.due("why not deed " + v, x.judge(0, 1), why);
        Checks.due("drawn by deed " + v, x.judge(0, 2), drawn);
    }

    private static void deedsOfStrokes() {
        Doc.terms("DEEDS in a TRAY: 0 to 399: HAND v by 100 draws CELL v modulo 100;");
        for (int from = -20; from < 480; from += 50) {
            LastMark x = forDeeds();
            for (int v = from; v < from + 50; v++) {
                judged(x, v, whyNot(v) == 0 ? 2 | 1 << v % 100 : 2);
            }
        }
        LastMark x = forDeeds();
        Checks.fill(x, 0, 3, 104);
        Checks.due("perform 104", x.perform(0), 1);
        Checks.due("the last one", x.count(5), 4);
    }

    private static void otherDeeds() {
        Doc.terms("500 to 599: CELL v - 500 is RUBBED; 600 to 699: HAND (v - 600) by 10 has HABIT v modulo 10; 700 to 799: X is "
            + "HIDDEN at CELL v - 700; others: 1.");
        for (int from = 480; from < 880; from += 50) {
            LastMark x = forDeeds();
            for (int v = from; v < from + 50; v++) {
                judged(x, v, v == 501 ? 0 : 2);
            }
        }
        LastMark x = forDeeds();
        Checks.fill(x, 0, 3, 501, 619, 600, 607, 700, 705);
        Checks.due("perform them", x.perform(0), 6);
        Checks.due("1 is rubbed", x.count(4), 0);
        Checks.due("hand 1 has habit 9", x.hand(1, 0), 9);
        Checks.due("hand 0 has habit 7", x.hand(0, 0), 7);
        Checks.due("X is 5", x.count(6), 5);
    }

    private static void deedsBeyondAnInt() {
        Doc.terms("others: 1.");
        long[] others = {-1, -100, 400, 450, 499, 800, 899, 1000, 65536, 65536 + 500, Integer.MAX_VALUE, Integer.MIN_VALUE,
            1L << 32, (1L << 32) + 3, (1L << 32) + 501, -(1L << 32), Long.MAX_VALUE, Long.MIN_VALUE, Long.MIN_VALUE + 3};
        LastMark x = forDeeds();
        for (long v : others) {
            judged(x, v, 2);
        }
    }

    private static void undoneAsAWhole() {
        Doc.terms("Calls that did some can be UNDONE each as a whole, the latest first,");
        LastMark x = Checks.reads("sheet 2 3;hand;hand;", 3);
        Checks.due("nothing yet", x.count(9), 0);
        x.stroke(0, 0);
        Checks.fill(x, 0, 1, 1, 102, 617, 703);
        Checks.due("four deeds in one call", x.perform(0), 4);
        Checks.fill(x, 0, 1, 1, 2);
        Checks.due("none of them can be", x.perform(0), 0);
        Checks.due("two calls", x.count(9), 2);
        Checks.due("undo(1)", x.undo(1), 1);
        Checks.due("all four are undone", x.count(4), 1);
        Checks.due("the habit too", x.hand(1, 0), 0);
        Checks.due("X too", x.count(6), -1);
        Checks.due("undo(1)", x.undo(1), 0);
        Checks.due("the eldest last", x.count(4), 0);
        Checks.fill(x, 0, 1, 3, 3, 4);
        Checks.due("one can be, the next can't", x.perform(0), 1);
        Checks.due("it did some", x.count(9), 1);
        Checks.due("the same habit is a deed", x.habit(0, 0), 0);
        Checks.due("so it can be undone", x.count(9), 2);
    }

    private static void tenAtMost() {
        Doc.terms("10 at most (eldest are forgotten):");
        LastMark x = Checks.reads("sheet 3 4;hand;", 2);
        for (int c = 0; c < 12; c++) {
            x.stroke(0, c);
            Checks.due("count(9)", x.count(9), Math.min(10, c + 1));
        }
        Checks.due("eleven can't be", x.undo(11), -3);
        Checks.due("all twelve are drawn still", x.count(4), 4095);
        Checks.due("undo(3)", x.undo(3), 7);
        Checks.due("nine are drawn", x.count(4), 511);
        Checks.due("habit(0, 1)", x.habit(0, 1), 0);
        Checks.due("eight", x.count(9), 8);
        Checks.due("undo(8)", x.undo(8), 0);
        Checks.due("two are drawn: the eldest are forgotten", x.count(4), 3);
        Checks.due("undo(1)", x.undo(1), -3);
        for (int i = 0; i < 25; i++) {
            x.habit(0, i % 10);
        }
        Checks.due("ten again", x.undo(10), 0);
        Checks.due("the habit of the fifteenth", x.hand(0, 0), 4);
    }

    private static void whatIsBroughtBack() {
        Doc.terms("CELLS, LAST, HABITS, X.");
        LastMark x = Checks.reads("sheet 1 4;hand habit 2;hand habit 3;last 0;", 4);
        x.hide(3);
        Checks.fill(x, 0, 1, 1, 500, 605, 702);
        Checks.due("perform", x.perform(0), 4);
        Checks.counts(x, "done", 1, 4, 4, 2, 2, 1, 2, 0, 3, 2);
        x.feed(0, 0, 0, 0, 0);
        Checks.due("undo", x.undo(1), 1);
        Checks.counts(x, "undone", 1, 4, 4, 2, 1, 0, 3, 0, 3, 1);
        Checks.due("habit of 0", x.hand(0, 0), 2);
        Checks.due("habit of 1", x.hand(1, 0), 3);
        Checks.due("the tape isn't brought back", x.count(10), 20);
        Checks.due("nor the tray", x.judge(0, 0), -1);
        Checks.due("undo", x.undo(1), 0);
        Checks.due("no X", x.count(6), -1);
        Checks.due("rub(0)", x.rub(0), 4);
        Checks.due("undo", x.undo(1), 0);
        Checks.counts(x, "rubbed, undone", 1, 4, 4, 2, 1, 0, -1, 0, 3, 0);
    }
}
