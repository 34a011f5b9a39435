/** The edges of promises 1 to 6, and of what is said of the use of an object. */
public final class EdgeSheetTest {
    public static void main(String[] args) {
        newObject();
        calls512();
        highestByteFirst();
        behindThoseOnTheTape();
        moreThan900();
        firstBytes();
        emptyThen();
        noXThen();
        nothingUndoneThen();
        linesWithSheet();
        allStaysWithAFault();
        numberOfBytes();
        thirtyLessTheFault();
        faultOfTheLatestRead();
        faultForOthers();
        kindOfACell();
        whetherDrawn();
        neighboursDrawn();
        oddsOfACell();
        handsThatMay();
        stepsFromTheLast();
        noSuchCell();
        habitOfAHand();
        cellsItMay();
        noSuchHand();
        Checks.finish();
    }

    private static void newObject() {
        Doc.promise(1, "1 CELL, no HANDS.");
        LastMark x = new LastMark();
        Checks.counts(x, "of a new object", 1, 1, 1, 0, 0, -1, -1, 0, 1, 0, 0, 0, -1);
        Checks.due("cell(0, 0)", x.cell(0, 0), 0);
        Checks.due("cell(1, 0)", x.cell(1, 0), -2);
        Checks.due("hand(0, 0)", x.hand(0, 0), -2);
        Checks.due("likeliest()", x.likeliest(), 0);
        Checks.due("no tape", x.sheet(1), -3);
        Checks.due("no deed", x.undo(1), -3);
        for (int t = 0; t < 4; t++) {
            Checks.due("tray " + t, x.perform(t), -6);
        }
        Checks.due("image 0", x.restore(0), -5);
        Checks.due("image 1", x.restore(1), -5);
        LastMark y = new LastMark();
        x.hide(0);
        Checks.due("another object is another one", y.count(6), -1);
    }

    private static void calls512() {
        Doc.use("An object is used for at most 512 calls after it has been made;");
        LastMark x = new LastMark();
        for (int i = 1; i <= 511; i++) {
            Checks.due("hide, call " + i, x.hide(0), i == 1 ? -1 : 0);
        }
        Checks.due("call 512", x.undo(10), 0);
        LastMark deeds = Checks.reads("sheet 3 4;hand habit 1;", 2);
        int calls = 5;
        while (calls < 511) {
            Checks.due("rows(0, 2) by call " + calls, deeds.rows(0, 2), 132);
            Checks.due("the same habit", deeds.habit(0, 1), 1);
            calls += 2;
        }
        Checks.due("rows(0, 12) by the 512th call", deeds.rows(0, 12), 479001600);
    }

    private static void highestByteFirst() {
        Doc.promise(2, "Twenty bytes come behind those on THE TAPE, the highest of each int first: how many it has.");
        LastMark x = new LastMark();
        Checks.due("sheet 1 2;drawn 1 ; ", x.feed(0x73686565, 0x74203120, 0x323b6472, 0x61776e20, 0x31203b20), 20);
        Checks.due("sheet(20)", x.sheet(20), 2);
        Checks.due("count(4)", x.count(4), 2);
        Checks.due("bytes above 127", x.feed(-1, -1, -1, -1, -1), 20);
        Checks.due("no token", x.sheet(1), -31);
        x.feed(0x20202020, 0x202020ff, 0x20202020, 0x20202020, 0x20202020);
        Checks.due("the lowest byte of the second", x.sheet(20), -31);
        Checks.due("its place", x.fault(1), 7);
        x.feed(0x20202020, 0x20202020, 0x20202020, 0x20202020, 0x20200020);
        Checks.due("the second lowest of the fifth", x.sheet(20), -31);
        Checks.due("its place", x.fault(1), 18);
        x.feed(0x20202020, 0x20202020, 0x20202020, 0x80202020, 0x20202020);
        Checks.due("the highest of the fourth", x.sheet(20), -31);
        Checks.due("its place", x.fault(1), 12);
        x.feed(0x20202020, 0x20202020, 0x20902020, 0x20202020, 0x20202020);
        Checks.due("the second of the third", x.sheet(20), -31);
        Checks.due("its place", x.fault(1), 9);
    }

    private static void behindThoseOnTheTape() {
        Doc.promise(2, "come behind those on THE TAPE");
        LastMark x = new LastMark();
        for (int i = 0; i < 45; i++) {
            int last = i == 7 ? 0x20202021 : 0x20202020;
            Checks.due("feed", x.feed(0x20202020, 0x20202020, 0x20202020, 0x20202020, last), 20 * i + 20);
        }
        Checks.due("sheet(900)", x.sheet(900), -31);
        Checks.due("the 160th byte", x.fault(1), 159);
    }

    private static void moreThan900() {
        Doc.promise(2, "-5: it would have more than 900.");
        LastMark x = new LastMark();
        Checks.tape(x, "sheet 1 3;" + " ".repeat(880) + "drawn 2;  ");
        Checks.due("full", x.count(10), 900);
        Checks.due("feed", x.feed(0, 0, 0, 0, 0), -5);
        Checks.due("feed", x.feed(-1, -1, -1, -1, -1), -5);
        Checks.due("as full as it was", x.count(10), 900);
        Checks.due("and as it was", x.sheet(900), 2);
        Checks.due("count(4)", x.count(4), 4);
        Checks.due("from 0 again", x.feed(0, 0, 0, 0, 0), 20);
    }

    private static void firstBytes() {
        Doc.promise(3, "The first n bytes of THE TAPE (which is empty then) are THE SHEET,");
        LastMark x = new LastMark();
        Checks.tape(x, "sheet 1 2;drawn 0;drawn 1;");
        Checks.due("sheet(18)", x.sheet(18), 2);
        Checks.due("what stands behind is no text", x.count(4), 1);
        Checks.tape(x, "sheet 1 2; $$$");
        Checks.due("not even a bad one", x.sheet(11), 1);
        Checks.due("sheet(0) of an empty tape", x.sheet(0), -32);
        Checks.due("its place", x.fault(1), 0);
        Checks.tape(x, "sheet 1 2;");
        Checks.due("sheet(0) of a tape", x.sheet(0), -32);
        Checks.due("its place", x.fault(1), 0);
        Checks.tape(x, "sheet 2 2;          ");
        Checks.due("all that there is", x.sheet(20), 1);
    }

    private static void emptyThen() {
        Doc.promise(3, "(which is empty then)");
        LastMark x = new LastMark();
        Checks.tape(x, "sheet 1 2;" + "drawn 0;".repeat(10));
        Checks.due("sheet(10)", x.sheet(10), 1);
        Checks.due("count(10)", x.count(10), 0);
        Checks.due("sheet(1)", x.sheet(1), -3);
        Checks.tape(x, "hand;");
        Checks.due("a fault", x.sheet(5), -32);
        Checks.due("empty by a fault, too", x.count(10), 0);
        Checks.tape(x, "sheet 1 1;");
        Checks.due("sheet(0)", x.sheet(0), -32);
        Checks.due("empty by none of its bytes, too", x.count(10), 0);
    }

    private static void noXThen() {
        Doc.promise(3, "there is no X, nothing can be UNDONE:");
        LastMark x = Checks.reads("sheet 1 3;hand;", 2);
        x.hide(2);
        x.stroke(0, 2);
        Checks.due("found", x.count(7), 1);
        Checks.due("the same text", Checks.tell(x, "sheet 1 3;hand;"), 2);
        Checks.counts(x, "behind it", 1, 3, 3, 1, 0, -1, -1, 0, 3, 0, 0, 2);
        Checks.due("X can be hidden", x.hide(0), -1);
    }

    private static void nothingUndoneThen() {
        Doc.promise(3, "nothing can be UNDONE");
        LastMark x = Checks.reads("sheet 1 3;hand;", 2);
        for (int i = 0; i < 12; i++) {
            x.habit(0, i % 10);
        }
        Checks.tell(x, "sheet 1 3;hand;");
        Checks.due("count(9)", x.count(9), 0);
        Checks.due("undo(1)", x.undo(1), -3);
        x.stroke(0, 1);
        Checks.due("but what comes behind", x.undo(1), 0);
        Checks.due("count(4)", x.count(4), 0);
        Checks.due("hand(0, 0)", x.hand(0, 0), 0);
    }

    private static void linesWithSheet() {
        Doc.promise(3, "how many LINES (sheet, too;");
        Checks.due("count(11)", Checks.reads("sheet 1 1;", 1).count(11), 1);
        Checks.due("count(11)", Checks.reads("sheet 1 1;hand;drawn 0;", 3).count(11), 3);
        Checks.due("later ones that strike count, too", Checks.reads("sheet 1 1;may:1=1;may:1=1;row 0 1;row 0 1;", 5).count(11), 5);
    }

    private static void allStaysWithAFault() {
        Doc.promise(3, "all stays with a FAULT).");
        LastMark x = Checks.reads("sheet 1 4;row 0 1 2 3 4;hand habit 6;hand;last 3;may:cell<3;odds:kind;", 7);
        x.hide(2);
        x.stroke(0, 1);
        x.image(1);
        Checks.fill(x, 0, 0, 0);
        int[] counts = {1, 4, 4, 2, 10, 1, 2, 0, 4, 2, 0, 7};
        Checks.counts(x, "ahead", counts);
        String[] texts = {"sheet 2 2;hand;hand;hand;drawn 0;row 0 5 5;last 2;may:1=2;odds:0", "sheet 1 1;hand habit 10;",
            "$", "", "sheet 2 2;hand;hand;hand;hand;hand;"};
        for (String text : texts) {
            Checks.dueTrue("a fault", Checks.tell(x, text) < -30);
            Checks.counts(x, "behind a fault", counts);
            for (int c = 0; c < 4; c++) {
                Checks.due("kind of " + c, x.cell(c, 0), c + 1);
            }
            Checks.due("habit", x.hand(0, 0), 6);
            Checks.due("may", x.hand(1, 1), 5);
            Checks.due("the tray", x.judge(0, 0), -1);
        }
        Checks.due("undo", x.undo(2), 0);
        Checks.due("as it was", x.count(4), 8);
        Checks.due("the image", x.restore(1), 0);
        Checks.due("as it was", x.count(4), 10);
    }

    private static void numberOfBytes() {
        Doc.promise(3, "-3: n is below 0 or above what there is (THE TAPE stays);");
        LastMark x = new LastMark();
        Checks.due("above nothing", x.sheet(1), -3);
        Checks.tape(x, "sheet 1 2;drawn 1;");
        for (int n : new int[] {-1, 21, 900, 901, Integer.MAX_VALUE, Integer.MIN_VALUE}) {
            Checks.due("sheet(" + n + ")", x.sheet(n), -3);
            Checks.due("the tape stays", x.count(10), 20);
        }
        Checks.due("no fault was read", x.fault(0), 0);
        Checks.due("as it was", x.sheet(20), 2);
        Checks.due("count(4)", x.count(4), 2);
    }

    private static void thirtyLessTheFault() {
        Doc.promise(3, "-30 less the FAULT.");
        LastMark x = new LastMark();
        Checks.due("1", Checks.tell(x, "sheet 1 1000;"), -31);
        Checks.due("2", Checks.tell(x, "sheet 1 hand;"), -32);
        Checks.due("3", Checks.tell(x, "sheet 1 100;"), -33);
        Checks.due("4", Checks.tell(x, "sheet 1 1;odds:(((((((1)))))));"), -34);
    }

    private static void faultOfTheLatestRead() {
        Doc.promise(4, "Of the latest sheet() that was read, what 0: its FAULT (0), 1: its place (NONE).");
        LastMark x = new LastMark();
        Checks.due("none was read: fault(0)", x.fault(0), 0);
        Checks.due("none was read: fault(1)", x.fault(1), -1);
        Checks.tell(x, "sheet 1 99;");
        Checks.due("fault(0)", x.fault(0), 3);
        Checks.due("fault(1)", x.fault(1), 8);
        Checks.due("one that isn't read", x.sheet(1), -3);
        Checks.due("fault(0)", x.fault(0), 3);
        Checks.due("fault(1)", x.fault(1), 8);
        Checks.tell(x, "sheet 1 9;");
        Checks.due("without a fault: fault(0)", x.fault(0), 0);
        Checks.due("without a fault: fault(1)", x.fault(1), -1);
        Checks.tell(x, "$");
        Checks.due("a place of 0", x.fault(1), 0);
        Checks.tell(x, "sheet 1 1;" + " ".repeat(889) + "$");
        Checks.due("the last place there is", x.fault(1), 899);
        Checks.tell(x, " ".repeat(900));
        Checks.due("the end of the longest text", x.fault(1), 900);
        Checks.due("fault(0)", x.fault(0), 2);
        x.image(0);
        Checks.tell(x, "sheet 1 9;");
        x.restore(0);
        Checks.due("no image brings it back", x.fault(0), 0);
    }

    private static void faultForOthers() {
        Doc.promise(4, "NONE for others.");
        LastMark x = new LastMark();
        Checks.tell(x, "sheet 1 99;");
        for (int what : new int[] {-1, 2, 3, 10, Integer.MAX_VALUE, Integer.MIN_VALUE}) {
            Checks.due("fault(" + what + ")", x.fault(what), -1);
        }
    }

    private static LastMark sample() {
        return Checks.reads("sheet 2 3;row 0 0 8 1;row 1 2 3 4;hand;hand habit 9;last 4;odds:cell*200;may:kind<habit+2;", 8);
    }

    private static void cell(LastMark x, int what, int... due) {
        for (int c = 0; c < due.length; c++) {
            Checks.due("cell(" + c + ", " + what + ")", x.cell(c, what), due[c]);
        }
    }

    private static void kindOfACell() {
        Doc.promise(5, "Of a CELL, what 0: KIND,");
        cell(sample(), 0, 0, 8, 1, 2, 3, 4, -2);
        cell(new LastMark(), 0, 0, -2);
    }

    private static void whetherDrawn() {
        Doc.promise(5, "1: 1 if DRAWN, else 0,");
        cell(sample(), 1, 0, 0, 0, 0, 1, 0, -2);
    }

    private static void neighboursDrawn() {
        Doc.promise(5, "2: how many NEIGHBOURS are DRAWN,");
        cell(sample(), 2, 0, 1, 0, 1, 0, 1, -2);
        LastMark all = Checks.reads("sheet 3 3;drawn 0;drawn 1;drawn 2;drawn 3;drawn 4;drawn 5;drawn 6;drawn 7;drawn 8;", 10);
        cell(all, 2, 2, 3, 2, 3, 4, 3, 2, 3, 2);
    }

    private static void oddsOfACell() {
        Doc.promise(5, "3: ODDS,");
        cell(sample(), 3, 0, 200, 400, 600, 0, 999, -2);
        cell(Checks.reads("sheet 1 2;drawn 1;", 2), 3, 1, 0);
    }

    private static void handsThatMay() {
        Doc.promise(5, "4: HANDS that may draw it now, as bits (none, if it is DRAWN, the author FOUND),");
        LastMark x = sample();
        cell(x, 4, 3, 2, 3, 2, 0, 2, -2);
        x.hide(2);
        cell(x, 4, 3, 2, 3, 2, 0, 2);
        Checks.due("stroke(0, 2)", x.stroke(0, 2), 4);
        cell(x, 4, 0, 0, 0, 0, 0, 0);
        Checks.due("undo", x.undo(1), 1);
        cell(x, 4, 3, 2, 3, 2, 0, 2);
        cell(Checks.reads("sheet 1 2;drawn 1;hand;hand;hand;hand;", 6), 4, 15, 0);
        cell(new LastMark(), 4, 0);
    }

    private static void stepsFromTheLast() {
        Doc.promise(5, "5: how many steps it is from the LAST one (0: there is none).");
        LastMark x = sample();
        cell(x, 5, 2, 1, 2, 1, 0, 1, -2);
        x.rub(4);
        cell(x, 5, 0, 0, 0, 0, 0, 0);
        cell(Checks.reads("sheet 1 12;last 0;", 2), 5, 0, 1, 2, 3, 4, 5, 6, 7, 8, 9, 10, 11);
        cell(Checks.reads("sheet 12 1;last 11;", 2), 5, 11, 10, 9, 8, 7, 6, 5, 4, 3, 2, 1, 0);
        cell(Checks.reads("sheet 1 2;drawn 1;", 2), 5, 0, 0);
    }

    private static void noSuchCell() {
        Doc.promise(5, "-2.");
        LastMark x = sample();
        for (int c : new int[] {-1, 6, 12, Integer.MAX_VALUE, Integer.MIN_VALUE}) {
            for (int what = -1; what < 7; what++) {
                Checks.due("cell(" + c + ", " + what + ")", x.cell(c, what), -2);
            }
        }
        for (int what : new int[] {-1, 6, 7, Integer.MAX_VALUE, Integer.MIN_VALUE}) {
            Checks.due("cell(0, " + what + ")", x.cell(0, what), -2);
        }
    }

    private static void habitOfAHand() {
        Doc.promise(6, "Of a HAND, what 0: HABIT,");
        LastMark x = sample();
        Checks.due("hand(0, 0)", x.hand(0, 0), 0);
        Checks.due("hand(1, 0)", x.hand(1, 0), 9);
    }

    private static void cellsItMay() {
        Doc.promise(6, "1: CELLS it may draw now, as bits (none, if the author is FOUND).");
        LastMark x = sample();
        Checks.due("hand(0, 1)", x.hand(0, 1), 0b000101);
        Checks.due("hand(1, 1)", x.hand(1, 1), 0b101111);
        x.hide(0);
        Checks.due("X isn't drawn", x.hand(1, 1), 0b101111);
        x.stroke(0, 0);
        Checks.due("found", x.hand(0, 1), 0);
        Checks.due("found", x.hand(1, 1), 0);
        Checks.due("found: the habit", x.hand(1, 0), 9);
        Checks.due("all of twelve", Checks.reads("sheet 3 4;hand;", 2).hand(0, 1), 4095);
        Checks.due("all are drawn", Checks.reads("sheet 1 1;hand;drawn 0;", 3).hand(0, 1), 0);
    }

    private static void noSuchHand() {
        Doc.promise(6, "-2.");
        LastMark x = sample();
        for (int h : new int[] {-1, 2, 3, 4, Integer.MAX_VALUE, Integer.MIN_VALUE}) {
            for (int what = -1; what < 3; what++) {
                Checks.due("hand(" + h + ", " + what + ")", x.hand(h, what), -2);
            }
        }
        for (int what : new int[] {-1, 2, Integer.MAX_VALUE, Integer.MIN_VALUE}) {
            Checks.due("hand(0, " + what + ")", x.hand(0, what), -2);
        }
        Checks.due("no hands at all", new LastMark().hand(0, 0), -2);
    }
}
