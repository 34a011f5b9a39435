/** The edges of promises 38 to 43: numbers, write, lists, image, restore, count. */
public final class EdgeTraysTest {
    public static void main(String[] args) {
        none();
        missingAtFirst();
        numbersAllZero();
        noSuchTray();
        traysStay();
        cutTo8Bits();
        cutTo16Bits();
        cutTo32Bits();
        cutTo64Bits();
        refusedWrite();
        stuckRowInATray();
        asFarAsItHasPlaces();
        refusedLists();
        imageIsMade();
        refusedImage();
        whatIsInAnImage();
        nothingUndoneBehind();
        asItWas();
        refusedRestore();
        counts();
        countsOfNone();
        countsForOthers();
        Checks.finish();
    }

    private static void none() {
        Doc.terms("The constants: `NONE = -1`: There is none.");
        Checks.due("NONE", LastMark.NONE, -1);
    }

    private static void missingAtFirst() {
        Doc.terms("TRAYS 0 to 3 are MISSING at first, or have 0 to 40 numbers of 8 bits (sort 0), 16 (1), 32 (2), 64 (3).");
        LastMark x = Checks.reads("sheet 1 2;hand;", 2);
        for (int t = 0; t < 4; t++) {
            Checks.due("write(" + t + ")", x.write(t, 0, 0), -6);
            Checks.due("lists(" + t + ")", x.lists(t, 0), -6);
            Checks.due("judge(" + t + ")", x.judge(t, 0), -6);
            Checks.due("perform(" + t + ")", x.perform(t), -6);
            Checks.due("habits(" + t + ")", x.habits(t, 0), -6);
            Checks.due("look(" + t + ")", x.look(t, 0), -6);
            Checks.due("carried(" + t + ")", x.carried(t), -6);
            Checks.due("changes(" + t + ")", x.changes(t, 0), -6);
            Checks.due("covers(" + t + ")", x.covers(t, 0, 0), -6);
        }
        for (int t = 0; t < 4; t++) {
            Checks.due("numbers(" + t + ")", x.numbers(t, t, 0), 0);
            Checks.due("there, without numbers", x.judge(t, 0), -1);
            Checks.due("the next one is missing", x.judge((t + 1) % 4, 0), t == 3 ? -1 : -6);
        }
        x.numbers(2, 3, 40);
        Checks.due("number 39", x.write(2, 39, Long.MAX_VALUE), Long.MAX_VALUE);
        Checks.due("number 40", x.write(2, 40, 0), -7);
    }

    private static void numbersAllZero() {
        Doc.promise(38, "A TRAY has n numbers of a sort, all 0 (in place of another one): 0.");
        LastMark x = Checks.reads("sheet 1 4;hand;", 2);
        Checks.due("numbers(0, 1, 3)", x.numbers(0, 1, 3), 0);
        Checks.due("the first 0 can be", x.judge(0, 2), 1);
        Checks.due("the second can't", x.judge(0, 0), 1);
        Checks.fill(x, 0, 1, 1, 2, 3);
        Checks.due("three strokes", x.judge(0, 2), 14);
        Checks.due("in place of another one", x.numbers(0, 1, 3), 0);
        Checks.due("all 0", x.judge(0, 2), 1);
        Checks.due("all 0", x.judge(0, 0), 1);
        Checks.fill(x, 0, 1, 1, 2, 3);
        Checks.due("fewer", x.numbers(0, 1, 0), 0);
        Checks.due("none is left", x.judge(0, 2), 0);
        Checks.due("more", x.numbers(0, 1, 3), 0);
        Checks.due("all 0 again", x.judge(0, 2), 1);
        Checks.due("another sort", x.numbers(0, 0, 3), 0);
        Checks.due("cut by it", x.write(0, 0, 256), 0);
    }

    private static void noSuchTray() {
        Doc.promise(38, "-2: no such TRAY, sort;");
        LastMark x = new LastMark();
        int[][] no = {{-1, 0, 0}, {4, 0, 0}, {0, -1, 0}, {0, 4, 0}, {4, 4, 41}, {0, 4, 41}, {4, 0, -1}, {Integer.MAX_VALUE, 0, 0},
            {Integer.MIN_VALUE, 0, 0}, {0, Integer.MAX_VALUE, 0}, {0, Integer.MIN_VALUE, 0}};
        for (int[] n : no) {
            Checks.due("numbers(" + n[0] + ", " + n[1] + ", " + n[2] + ")", x.numbers(n[0], n[1], n[2]), -2);
        }
        Checks.due("still missing", x.judge(0, 0), -6);
    }

    private static void traysStay() {
        Doc.promise(38, "-3, and the TRAY stays: n is below 0 or above 40.");
        LastMark x = Checks.reads("sheet 1 4;hand;", 2);
        for (int n : new int[] {-1, 41, Integer.MAX_VALUE, Integer.MIN_VALUE}) {
            Checks.due("numbers(1, 0, " + n + ")", x.numbers(1, 0, n), -3);
            Checks.due("it stays missing", x.judge(1, 0), -6);
        }
        Checks.fill(x, 0, 1, 1, 2, 3);
        for (int n : new int[] {-1, 41, Integer.MAX_VALUE, Integer.MIN_VALUE}) {
            Checks.due("numbers(0, 0, " + n + ")", x.numbers(0, 0, n), -3);
            Checks.due("its numbers stay", x.judge(0, 2), 14);
            Checks.due("its sort stays", x.write(0, 2, 300), 300);
            x.write(0, 2, 3);
            Checks.due("its places stay", x.write(0, 3, 0), -7);
        }
        Checks.due("numbers(0, 0, 40)", x.numbers(0, 0, 40), 0);
        Checks.due("numbers(0, 0, 0)", x.numbers(0, 0, 0), 0);
    }

    private static void cut(int sort, long... pairs) {
        LastMark x = new LastMark();
        x.numbers(1, sort, 2);
        for (int i = 0; i < pairs.length; i += 2) {
            Checks.due("write(1, 0, " + pairs[i] + ") to sort " + sort, x.write(1, 0, pairs[i]), pairs[i + 1]);
            Checks.due("write(1, 1, " + pairs[i] + ") to sort " + sort, x.write(1, 1, pairs[i]), pairs[i + 1]);
        }
    }

    private static void cutTo8Bits() {
        Doc.promise(39, "Number i of a TRAY is v, cut to its sort: as it is there.");
        cut(0, 0, 0, 1, 1, -1, -1, 127, 127, 128, -128, -128, -128, -129, 127, 255, -1, 256, 0, 257, 1, -256, 0, Long.MAX_VALUE, -1,
            Long.MIN_VALUE, 0, 0x1234567890abcdefL, (byte) 0xef);
        LastMark x = Checks.reads("sheet 1 4;hand;", 2);
        Checks.fill(x, 0, 0, 256 + 2);
        Checks.due("the deed is the number as it is there", x.judge(0, 2), 4);
    }

    private static void cutTo16Bits() {
        Doc.promise(39, "cut to its sort");
        cut(1, 0, 0, -1, -1, 128, 128, 32767, 32767, 32768, -32768, -32768, -32768, -32769, 32767, 65535, -1, 65536, 0, 65537, 1,
            Long.MAX_VALUE, -1, Long.MIN_VALUE, 0, 0x1234567890abcdefL, (short) 0xcdef);
        LastMark x = Checks.reads("sheet 1 4;hand;drawn 1;", 3);
        Checks.fill(x, 0, 1, 65536 + 501);
        Checks.due("the deed is the number as it is there", x.judge(0, 2), 0);
    }

    private static void cutTo32Bits() {
        Doc.promise(39, "as it is there.");
        cut(2, 0, 0, -1, -1, 65536, 65536, 2147483647L, 2147483647L, 2147483648L, -2147483648L, -2147483649L, 2147483647L,
            4294967295L, -1, 4294967296L, 0, Long.MAX_VALUE, -1, Long.MIN_VALUE, 0, 0x1234567890abcdefL, 0x90abcdef);
        LastMark x = Checks.reads("sheet 1 4;hand;", 2);
        Checks.fill(x, 0, 2, 4294967296L + 3);
        Checks.due("the deed is the number as it is there", x.judge(0, 2), 8);
    }

    private static void cutTo64Bits() {
        Doc.promise(39, "Number i of a TRAY is v");
        cut(3, 0, 0, -1, -1, 4294967296L, 4294967296L, Long.MAX_VALUE, Long.MAX_VALUE, Long.MIN_VALUE, Long.MIN_VALUE,
            0x1234567890abcdefL, 0x1234567890abcdefL);
        LastMark x = Checks.reads("sheet 1 4;hand;", 2);
        Checks.fill(x, 0, 3, 4294967296L + 3);
        Checks.due("the deed is the number as it is there", x.judge(0, 1), 1);
    }

    private static void refusedWrite() {
        Doc.promise(39, "-2: no such TRAY; -6; -7.");
        LastMark x = Checks.reads("sheet 1 4;hand;", 2);
        for (int t : new int[] {-1, 4, Integer.MAX_VALUE, Integer.MIN_VALUE}) {
            Checks.due("write(" + t + ", 0, 1)", x.write(t, 0, 1), -2);
        }
        Checks.due("missing", x.write(0, 0, 1), -6);
        Checks.due("missing goes ahead of no such number", x.write(0, -1, 1), -6);
        Checks.fill(x, 0, 1, 1, 2);
        for (int i : new int[] {-1, 2, 3, 39, 40, Integer.MAX_VALUE, Integer.MIN_VALUE}) {
            Checks.due("write(0, " + i + ", 3)", x.write(0, i, 3), -7);
        }
        Checks.due("its numbers stay", x.judge(0, 2), 6);
        x.numbers(0, 1, 0);
        Checks.due("no numbers at all", x.write(0, 0, 1), -7);
        x.numbers(0, 1, 40);
        Checks.due("write(0, 39, 3)", x.write(0, 39, 3), 3);
        Checks.due("write(0, 40, 3)", x.write(0, 40, 3), -7);
    }

    private static void stuckRowInATray() {
        Doc.promise(40, "CELLS of the STUCK ROW come into a TRAY,");
        LastMark x = Checks.reads("sheet 1 4;hand;may:far<2;", 3);
        Checks.fill(x, 0, 0, 3, 3, 3, 2);
        Checks.due("lists(0, 0)", x.lists(0, 0), 2);
        Checks.due("1, 0, and what was there", x.habits(0, 0), 0);
        Checks.due("1 and 0 can be drawn, 3 then can't", x.judge(0, 0), 2);
        Checks.due("drawn", x.judge(0, 2), 3);
        x.numbers(0, 3, 2);
        Checks.due("lists(0, 0)", x.lists(0, 0), 2);
        Checks.due("perform", x.perform(0), 2);
        Checks.due("the last one", x.count(5), 0);
        LastMark twelve = Checks.reads("sheet 3 4;hand;", 2);
        twelve.numbers(0, 0, 40);
        Checks.due("twelve", twelve.lists(0, 0), 12);
        Checks.due("all are drawn, then 0 again can't be", twelve.judge(0, 0), 12);
        Checks.due("drawn", twelve.judge(0, 2), 4095);
    }

    private static void asFarAsItHasPlaces() {
        Doc.promise(40, "as far as it has places: how many.");
        LastMark x = Checks.reads("sheet 3 4;hand;", 2);
        for (int n = 0; n <= 14; n++) {
            x.numbers(0, n % 4, n);
            Checks.due("into " + n + " places", x.lists(0, 0), Math.min(12, n));
            Checks.due("drawn by them", x.judge(0, 2), (1 << Math.min(12, n)) - 1);
        }
        LastMark none = Checks.reads("sheet 1 1;hand;drawn 0;", 3);
        Checks.fill(none, 0, 1, 500);
        Checks.due("a row of no strokes", none.lists(0, 0), 0);
        Checks.due("the tray stays", none.judge(0, 0), -1);
    }

    private static void refusedLists() {
        Doc.promise(40, "-2: the TRAY, the HAND; -6.");
        LastMark x = Checks.reads("sheet 1 4;hand;", 2);
        int[][] due = {{-1, 0, -2}, {4, 0, -2}, {0, -1, -2}, {0, 1, -2}, {4, 1, -2}, {0, 0, -6}, {3, 0, -6}, {Integer.MAX_VALUE, 0, -2},
            {0, Integer.MIN_VALUE, -2}};
        for (int[] d : due) {
            Checks.due("lists(" + d[0] + ", " + d[1] + ")", x.lists(d[0], d[1]), d[2]);
        }
        Checks.fill(x, 0, 1, 3, 2);
        Checks.due("no such hand", x.lists(0, 1), -2);
        Checks.due("the tray stays", x.judge(0, 2), 12);
    }

    private static void imageIsMade() {
        Doc.promise(41, "An IMAGE is made: 0.");
        LastMark x = Checks.reads("sheet 1 4;hand;", 2);
        x.stroke(0, 1);
        x.habit(0, 3);
        Checks.due("image(0)", x.image(0), 0);
        Checks.counts(x, "nothing changes by it", 1, 4, 4, 1, 2, 1, -1, 0, 3, 2, 0, 2);
        Checks.due("what was done can be undone", x.undo(2), 0);
        Checks.due("image(1)", x.image(1), 0);
        Checks.due("restore(0)", x.restore(0), 0);
        Checks.due("drawn", x.count(4), 2);
        Checks.due("restore(1)", x.restore(1), 0);
        Checks.due("none is drawn", x.count(4), 0);
        Checks.due("an image in place of another", x.image(0), 0);
        x.stroke(0, 3);
        Checks.due("restore(0)", x.restore(0), 0);
        Checks.due("the later one", x.count(4), 0);
        LastMark fresh = new LastMark();
        Checks.due("of a new object", fresh.image(0), 0);
        Checks.tell(fresh, "sheet 3 4;hand;");
        Checks.due("restore(0)", fresh.restore(0), 0);
        Checks.counts(fresh, "of a new object", 1, 1, 1, 0, 0, -1, -1, 0, 1, 0, 0, 0);
    }

    private static void refusedImage() {
        Doc.promise(41, "-2.");
        LastMark x = new LastMark();
        for (int i : new int[] {-1, 2, 3, Integer.MAX_VALUE, Integer.MIN_VALUE}) {
            Checks.due("image(" + i + ")", x.image(i), -2);
        }
        Checks.due("none was made", x.restore(0), -5);
        Checks.due("none was made", x.restore(1), -5);
    }

    private static void whatIsInAnImage() {
        Doc.terms("IMAGES 0 to 1: THE SHEET and what a call could bring back by UNDOING;");
        LastMark x = Checks.reads("sheet 1 4;row 0 1 2 3 4;hand habit 2;hand;last 0;may:cell<3;odds:kind;", 7);
        x.hide(2);
        x.habit(1, 9);
        x.image(1);
        Checks.fill(x, 0, 1, 1);
        Checks.tell(x, "sheet 2 2;hand;drawn 3;may:1=2;odds:0;");
        Checks.tape(x, "sheet");
        Checks.due("restore(1)", x.restore(1), 0);
        Checks.counts(x, "restored", 1, 4, 4, 2, 1, 0, 2, 0, 9, 0, 20, 7);
        for (int c = 0; c < 4; c++) {
            Checks.due("kind of " + c, x.cell(c, 0), c + 1);
        }
        Checks.due("habit of 0", x.hand(0, 0), 2);
        Checks.due("habit of 1", x.hand(1, 0), 9);
        Checks.due("may", x.hand(0, 1), 6);
        Checks.due("the tray isn't in it", x.judge(0, 2), 3);
        Checks.due("X is in it", x.stroke(0, 2), 2);
        Checks.due("found", x.count(7), 1);
        x.image(0);
        x.restore(1);
        Checks.due("not found", x.count(7), 0);
        x.restore(0);
        Checks.due("found is in it, too", x.count(7), 1);
        Checks.due("nothing can be drawn", x.stroke(0, 1), -12);
    }

    private static void nothingUndoneBehind() {
        Doc.terms("nothing can be UNDONE behind (none at first).");
        LastMark x = Checks.reads("sheet 1 4;hand;", 2);
        x.stroke(0, 0);
        x.stroke(0, 1);
        x.image(0);
        x.stroke(0, 2);
        Checks.due("count(9)", x.count(9), 3);
        Checks.due("restore(0)", x.restore(0), 0);
        Checks.due("count(9)", x.count(9), 0);
        Checks.due("undo(1)", x.undo(1), -3);
        x.stroke(0, 3);
        Checks.due("what comes behind can be", x.undo(1), 0);
        Checks.due("drawn", x.count(4), 3);
        Checks.due("none at first", new LastMark().restore(0), -5);
    }

    private static void asItWas() {
        Doc.promise(42, "All that is in an IMAGE is as it was: 0.");
        LastMark x = Checks.reads("sheet 1 4;hand;last 1;", 3);
        x.image(0);
        x.rub(1);
        x.hide(1);
        x.habit(0, 7);
        Checks.due("restore(0)", x.restore(0), 0);
        Checks.counts(x, "restored", 1, 4, 4, 1, 2, 1, -1, 0, 3, 0, 0, 3);
        Checks.due("the habit", x.hand(0, 0), 0);
        x.stroke(0, 0);
        Checks.due("once more", x.restore(0), 0);
        Checks.counts(x, "restored", 1, 4, 4, 1, 2, 1, -1, 0, 3, 0, 0, 3);
        Checks.due("rows are of it", x.rows(0, 1), 3);
    }

    private static void refusedRestore() {
        Doc.promise(42, "-2; -5: none was made.");
        LastMark x = Checks.reads("sheet 1 4;hand;", 2);
        x.stroke(0, 0);
        for (int i : new int[] {-1, 2, 3, Integer.MAX_VALUE, Integer.MIN_VALUE}) {
            Checks.due("restore(" + i + ")", x.restore(i), -2);
        }
        Checks.due("restore(0)", x.restore(0), -5);
        Checks.due("restore(1)", x.restore(1), -5);
        x.image(1);
        Checks.due("the other one", x.restore(0), -5);
        Checks.counts(x, "as it was", 1, 4, 4, 1, 1, 0, -1, 0, 3, 1, 0, 2);
        Checks.due("restore(1)", x.restore(1), 0);
    }

    private static void counts() {
        Doc.promise(43, "0 rows, 1 columns, 2 CELLS, 3 HANDS, 4 CELLS that are DRAWN, as bits, 5 the LAST one (NONE), 6 X (NONE), 7 1 if the "
            + "author is FOUND, else 0, 8 ODDS of all together, 9 calls that can be UNDONE, 10 bytes on THE TAPE, 11 LINES.");
        LastMark x = Checks.reads("sheet 2 3;hand;hand;drawn 1;last 5;odds:cell;", 6);
        x.hide(4);
        x.feed(0, 0, 0, 0, 0);
        Checks.counts(x, "told", 2, 3, 6, 2, 34, 5, 4, 0, 9, 1, 20, 6, -1);
        x.stroke(1, 4);
        Checks.counts(x, "found", 2, 3, 6, 2, 50, 4, 4, 1, 5, 2, 20, 6, -1);
        LastMark most = Checks.reads("sheet 12 1;hand;hand;hand;hand;last 11;odds:999;", 7);
        Checks.counts(most, "the most", 12, 1, 12, 4, 2048, 11, -1, 0, 10989, 0, 0, 7);
        for (int c = 10; c >= 0; c--) {
            most.stroke(0, c);
        }
        Checks.counts(most, "all drawn", 12, 1, 12, 4, 4095, 0, -1, 0, 0, 10, 0, 7);
    }

    private static void countsOfNone() {
        Doc.promise(43, "5 the LAST one (NONE), 6 X (NONE),");
        LastMark x = Checks.reads("sheet 1 2;hand;drawn 0;", 3);
        Checks.due("no last one", x.count(5), -1);
        Checks.due("no X", x.count(6), -1);
        x.stroke(0, 1);
        x.rub(0);
        x.hide(0);
        Checks.due("cell 0 is X", x.count(6), 0);
        x.stroke(0, 0);
        Checks.due("cell 0 is the last one", x.count(5), 0);
    }

    private static void countsForOthers() {
        Doc.promise(43, "NONE for others.");
        LastMark x = Checks.reads("sheet 2 3;hand;", 2);
        for (int what : new int[] {-1, 12, 13, 100, Integer.MAX_VALUE, Integer.MIN_VALUE}) {
            Checks.due("count(" + what + ")", x.count(what), -1);
        }
    }
}
