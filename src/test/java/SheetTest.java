/** Promises 1 to 6: a new object, feed, sheet, fault, cell, hand. */
public final class SheetTest {
    private static final String SAMPLE = "sheet 2 3; row 0 1 2 3; row 1 4 5 6; hand; hand habit 2; last 4;"
        + " may: kind > habit + 2 or far = 2; odds: kind * 2 - near;";

    public static void main(String[] args) {
        newObject();
        feeding();
        telling();
        lines();
        goodTexts();
        faults();
        nesting();
        faultOrder();
        cells();
        hands();
        laws();
        Checks.finish();
    }

    private static void newObject() {
        LastMark x = new LastMark();
        int[] counts = {1, 1, 1, 0, 0, -1, -1, 0, 1, 0, 0, 0, -1};
        for (int what = 0; what < counts.length; what++) {
            Checks.due("new count(" + what + ")", x.count(what), counts[what]);
        }
        int[] cell = {0, 0, 0, 1, 0, 0, -2};
        for (int what = 0; what < cell.length; what++) {
            Checks.due("new cell(0, " + what + ")", x.cell(0, what), cell[what]);
        }
        Checks.due("new cell(1, 0)", x.cell(1, 0), -2);
        Checks.due("new hand(0, 0)", x.hand(0, 0), -2);
        Checks.due("new fault(0)", x.fault(0), 0);
        Checks.due("new fault(1)", x.fault(1), -1);
        Checks.due("new fault(2)", x.fault(2), -1);
        Checks.due("new judge(0, 0)", x.judge(0, 0), -6);
        Checks.due("new restore(1)", x.restore(1), -5);
    }

    private static void feeding() {
        LastMark x = new LastMark();
        for (int i = 1; i <= 45; i++) {
            Checks.due("feed " + i, x.feed(0x20202020, 0x20202020, 0x20202020, 0x20202020, 0x20202020), 20 * i);
        }
        Checks.due("feed 46", x.feed(0, 0, 0, 0, 0), -5);
        Checks.due("count(10) of a full tape", x.count(10), 900);
        Checks.due("sheet of 900 blanks", x.sheet(900), -32);
        Checks.due("its place", x.fault(1), 900);
        Checks.due("feed again", x.feed(0x73686565, 0x74203120, 0x313b2064, 0x7261776e, 0x20303b20), 20);
        Checks.due("the highest byte first", x.sheet(20), 2);
        Checks.due("count(4)", x.count(4), 1);
        x.feed(-1, -1, -1, -1, -1);
        Checks.due("byte 255", x.sheet(20), -31);
        x.feed(0, 0, 0, 0, 0);
        Checks.due("byte 0", x.sheet(20), -31);
        Checks.due("its place", x.fault(1), 0);
    }

    private static void telling() {
        LastMark x = Checks.told(SAMPLE);
        Checks.due("hide(0)", x.hide(0), -1);
        Checks.due("stroke(0, 3)", x.stroke(0, 3), 4);
        Checks.tape(x, "sheet 1 2; hand; hand;");
        Checks.due("count(10)", x.count(10), 40);
        Checks.due("sheet(-1)", x.sheet(-1), -3);
        Checks.due("sheet(41)", x.sheet(41), -3);
        Checks.due("sheet(MAX)", x.sheet(Integer.MAX_VALUE), -3);
        Checks.due("sheet(MIN)", x.sheet(Integer.MIN_VALUE), -3);
        Checks.due("the tape stays", x.count(10), 40);
        Checks.due("no fault was read", x.fault(0), 0);
        Checks.due("sheet(15), cut within a line", x.sheet(15), -32);
        Checks.due("fault(1)", x.fault(1), 15);
        Checks.due("the tape is empty", x.count(10), 0);
        Checks.due("all stays: cells", x.count(2), 6);
        Checks.due("all stays: drawn", x.count(4), 24);
        Checks.due("all stays: X", x.count(6), 0);
        Checks.due("all stays: undo", x.count(9), 2);
        Checks.due("all stays: lines", x.count(11), 8);
        Checks.due("sheet told", Checks.tell(x, "sheet 1 2; hand; hand;"), 3);
        Checks.due("fault(0)", x.fault(0), 0);
        Checks.due("fault(1)", x.fault(1), -1);
        Checks.due("fault(-1)", x.fault(-1), -1);
        int[] counts = {1, 2, 2, 2, 0, -1, -1, 0, 2, 0, 0, 3};
        for (int what = 0; what < counts.length; what++) {
            Checks.due("told count(" + what + ")", x.count(what), counts[what]);
        }
        Checks.due("nothing can be undone", x.undo(1), -3);
        Checks.due("sheet(0)", x.sheet(0), -32);
        Checks.due("its place", x.fault(1), 0);
        x.fault(0);
        Checks.tape(x, "sheet 1 1;  and what stands behind");
        Checks.due("the first n bytes alone", x.sheet(10), 1);
        Checks.due("the rest is gone", x.count(10), 0);
        Checks.tape(x, "sheet 1 1;hands;");
        Checks.due("a word cut by n", x.sheet(14), -32);
        Checks.due("ends there", x.fault(1), 14);
        Checks.tape(x, "sheet 1 12;");
        Checks.due("a number cut by n", x.sheet(9), -32);
        Checks.due("ends there", x.fault(1), 9);
    }

    private static void lines() {
        LastMark x = Checks.told("sheet 2 2;row 0 1 2;row 1 3 4;row 0 5 6;hand habit 1 habit 7;hand;"
            + "last 0;last 3;drawn 1;drawn 1;may:1=2;may:cell=2;odds:5;odds:6;");
        Checks.due("lines", x.count(11), 14);
        Checks.due("a later row strikes", x.cell(0, 0), 5);
        Checks.due("a later row strikes", x.cell(1, 0), 6);
        Checks.due("the other row stays", x.cell(3, 0), 4);
        Checks.due("a later habit strikes", x.hand(0, 0), 7);
        Checks.due("habit 0", x.hand(1, 0), 0);
        Checks.due("a later last strikes", x.count(5), 3);
        Checks.due("the last ahead stays drawn", x.count(4), 11);
        Checks.due("a later may strikes", x.hand(0, 1), 4);
        Checks.due("a later odds strikes", x.count(8), 6);
    }

    private static void goodTexts() {
        String[] texts = {"sheet 1 1;", "sheet 12 1;", "sheet 1 12;", "sheet 3 4;", "sheet 001 012 ;",
            "\n\n sheet\n2\n2\n;\n", "sheet 4 3;row 3 0 8 8;", "sheet 1 1;hand;hand;hand;hand habit 9;",
            "sheet 1 1;may:1+2-3*4<5;", "sheet 1 1;may:cell*kind-near+left=hand+habit*last-far;",
            "sheet 1 1;odds:((((((1))))));", "sheet 1 1;odds:cell+kind*near-left;",
            "sheet 1 1;may:not[not[not[1=1]]];", "sheet 1 1;may:1=1 and 2=2 or 3=3and 4=4;",
            "sheet 1 1;may:[(1)+((2))=(3)]or not(((1)))<2;", "sheet 1 1;may:not 1=1 and not not 1=1;"};
        for (String text : texts) {
            Checks.told(text);
        }
        StringBuilder full = new StringBuilder("sheet 1 1;odds:1");
        while (full.length() < 898) {
            full.append(full.length() % 2 == 0 ? '+' : '1');
        }
        LastMark x = Checks.told(full + " ;");
        Checks.due("a law over the whole text", x.cell(0, 3), 442);
    }

    private static void faults() {
        Checks.faulty("   ", 2, 3);
        Checks.faulty("hand;", 2, 0);
        Checks.faulty("sheets 1 1;", 2, 0);
        Checks.faulty("shee 1 1;", 2, 0);
        Checks.faulty("cheet 1 1;", 2, 0);
        Checks.faulty("sheet 1 1;zoo;", 2, 10);
        Checks.faulty("sheet 1 1;jazz;", 2, 10);
        Checks.faulty("sheet 1 1;bow 0 0;", 2, 10);
        Checks.faulty("sheet 1 1;rows 0 0;", 2, 10);
        Checks.faulty("sheet;", 2, 5);
        Checks.faulty("sheet 1;", 2, 7);
        Checks.faulty("sheet 1 1", 2, 9);
        Checks.faulty("sheet 1 1 1;", 2, 10);
        Checks.faulty("sheet 0 1;", 3, 6);
        Checks.faulty("sheet 13 1;", 3, 6);
        Checks.faulty("sheet 1 0;", 3, 8);
        Checks.faulty("sheet 1 13;", 3, 8);
        Checks.faulty("sheet 7 2;", 3, 8);
        Checks.faulty("sheet 5 3;", 3, 8);
        Checks.faulty("sheet 1000 1;", 1, 6);
        Checks.faulty("sheet 0001 1;", 1, 6);
        Checks.faulty("sheet 1 1;sheet 1 1;", 2, 10);
        Checks.faulty("sheet 1 1;;", 2, 10);
        Checks.faulty("sheet 1 1;3", 2, 10);
        Checks.faulty("sheet 1 1;row", 2, 13);
        Checks.faulty("sheet 1 1;row 1 0;", 3, 14);
        Checks.faulty("sheet 1 1;row 0;", 2, 15);
        Checks.faulty("sheet 1 1;row 0 9;", 3, 16);
        Checks.faulty("sheet 1 1;row 0 8 9;", 2, 18);
        Checks.faulty("sheet 1 1;row 0 8 1000;", 1, 18);
        Checks.faulty("sheet 1 1;hand 1;", 2, 15);
        Checks.faulty("sheet 1 1;hand habit;", 2, 20);
        Checks.faulty("sheet 1 1;hand habit 10;", 3, 21);
        Checks.faulty("sheet 1 1;hand habit 1 last 0;", 2, 23);
        Checks.faulty("sheet 1 1;hand;hand;hand;hand;hand;", 4, 30);
        Checks.faulty("sheet 1 1;drawn 1;", 3, 16);
        Checks.faulty("sheet 1 1;drawn;", 2, 15);
        Checks.faulty("sheet 1 1;drawn 0 0;", 2, 18);
        Checks.faulty("sheet 1 1;last 1;", 3, 15);
        Checks.faulty("sheet 1 1;last :", 2, 15);
        Checks.faulty("sheet 1 1;may 1=1;", 2, 14);
        Checks.faulty("sheet 1 1;may:1;", 2, 15);
        Checks.faulty("sheet 1 1;may:1=;", 2, 16);
        Checks.faulty("sheet 1 1;may:=1;", 2, 14);
        Checks.faulty("sheet 1 1;may:1=1=1;", 2, 17);
        Checks.faulty("sheet 1 1;may:(1=1);", 2, 16);
        Checks.faulty("sheet 1 1;may:[1=1;", 2, 18);
        Checks.faulty("sheet 1 1;may:1=1];", 2, 17);
        Checks.faulty("sheet 1 1;may:1=1 and;", 2, 21);
        Checks.faulty("sheet 1 1;may:or 1=1;", 2, 14);
        Checks.faulty("sheet 1 1;may:not;", 2, 17);
        Checks.faulty("sheet 1 1;may:1+=1;", 2, 16);
        Checks.faulty("sheet 1 1;may:-1=1;", 2, 14);
        Checks.faulty("sheet 1 1;odds:1=1;", 2, 16);
        Checks.faulty("sheet 1 1;odds:not 1;", 2, 15);
        Checks.faulty("sheet 1 1;odds:[1];", 2, 15);
        Checks.faulty("sheet 1 1;odds:(1;", 2, 17);
        Checks.faulty("sheet 1 1;odds:1);", 2, 16);
        Checks.faulty("sheet 1 1;odds:hand;", 2, 15);
        Checks.faulty("sheet 1 1;odds:habit;", 2, 15);
        Checks.faulty("sheet 1 1;odds:last;", 2, 15);
        Checks.faulty("sheet 1 1;odds:far;", 2, 15);
        Checks.faulty("sheet 1 1;odds:1*;", 2, 17);
        Checks.faulty("sheet 1 1;odds:cells;", 2, 15);
        Checks.faulty("sheet 1 1;odds:row;", 2, 15);
        Checks.faulty("Sheet 1 1;", 1, 0);
        Checks.faulty("sheet 1 1,", 1, 9);
        Checks.faulty("sheet\t1 1;", 1, 5);
        Checks.faulty("sheet 1 1;\r", 1, 10);
        Checks.faulty("sheet 1 1;may:1!=1;", 1, 15);
    }

    private static void nesting() {
        Checks.faulty("sheet 1 1;odds:(((((((1)))))));", 4, 21);
        Checks.faulty("sheet 1 1;may:not not not not not not not 1=1;", 4, 38);
        Checks.faulty("sheet 1 1;may:[[[[[[[1=1]]]]]]];", 4, 20);
        Checks.faulty("sheet 1 1;may:not [ not [ ( ( ( 1 ) ) ) = 1 ] ];", 4, 30);
        Checks.faulty("sheet 1 1;may:not[not[((1 [", 2, 26);
        Checks.told("sheet 1 1;may:not [ not [ ( ( 1 ) ) + ( ( 2 ) ) = 1 ] and [ 1 = 1 ] ];");
    }

    /** The first along the text; of one token the least kind. */
    private static void faultOrder() {
        Checks.faulty("sheet 13 1000;", 3, 6);
        Checks.faulty("sheet 1 1;row 0 99 $", 3, 16);
        Checks.faulty("sheet 1 1;hand 99;", 2, 15);
        Checks.faulty("sheet 1 1;hand;hand;hand;hand;$", 1, 30);
        Checks.faulty("sheet 1 1;hand;hand;hand;hand;hands", 2, 30);
        Checks.faulty("sheet 1 1;odds:((((((1 (", 2, 23);
        Checks.faulty("sheet 1 1;odds:((((((#", 1, 21);
    }

    private static void cells() {
        LastMark x = Checks.told(SAMPLE);
        int[][] due = {{1, 0, 0, 2, 3, 2}, {2, 0, 1, 3, 0, 1}, {3, 0, 0, 6, 3, 2},
            {4, 0, 1, 7, 1, 1}, {5, 1, 0, 0, 0, 0}, {6, 0, 1, 11, 3, 1}};
        for (int c = 0; c < 6; c++) {
            for (int what = 0; what < 6; what++) {
                Checks.due("cell(" + c + ", " + what + ")", x.cell(c, what), due[c][what]);
            }
        }
        Checks.due("cell(-1, 0)", x.cell(-1, 0), -2);
        Checks.due("cell(6, 0)", x.cell(6, 0), -2);
        Checks.due("cell(0, -1)", x.cell(0, -1), -2);
        Checks.due("cell(0, 6)", x.cell(0, 6), -2);
        Checks.due("hide(3)", x.hide(3), -1);
        Checks.due("hands while X isn't drawn", x.cell(5, 4), 3);
        Checks.due("stroke(0, 3)", x.stroke(0, 3), 4);
        Checks.due("no hands once found", x.cell(5, 4), 0);
        Checks.due("odds once found", x.cell(5, 3), 11);
        LastMark none = Checks.told("sheet 2 3;drawn 1;");
        Checks.due("steps without a last one", none.cell(5, 5), 0);
        LastMark line = Checks.told("sheet 12 1;last 11;");
        Checks.due("steps along a column", line.cell(0, 5), 11);
    }

    private static void hands() {
        LastMark x = Checks.told(SAMPLE);
        Checks.due("hand(0, 0)", x.hand(0, 0), 0);
        Checks.due("hand(1, 0)", x.hand(1, 0), 2);
        Checks.due("hand(0, 1)", x.hand(0, 1), 45);
        Checks.due("hand(1, 1)", x.hand(1, 1), 37);
        Checks.due("hand(2, 0)", x.hand(2, 0), -2);
        Checks.due("hand(-1, 1)", x.hand(-1, 1), -2);
        Checks.due("hand(0, 2)", x.hand(0, 2), -2);
        Checks.due("hand(0, -1)", x.hand(0, -1), -2);
        x.hide(3);
        x.stroke(0, 3);
        Checks.due("hand(0, 1) once found", x.hand(0, 1), 0);
        Checks.due("hand(1, 0) once found", x.hand(1, 0), 2);
        Checks.due("without a law", Checks.told("sheet 1 3;drawn 1;hand;").hand(0, 1), 5);
    }

    private static void odds(String law, int c, int due) {
        Checks.due("odds of " + c + " by " + law, Checks.told("sheet 2 2;drawn 3;odds:" + law + ";").cell(c, 3), due);
    }

    private static void may(String law, int due) {
        LastMark x = Checks.told("sheet 2 2;row 0 1 2;row 1 3 4;last 3;hand;hand habit 5;may:" + law + ";");
        Checks.due("may: " + law, x.hand(1, 1), due);
    }

    private static void laws() {
        odds("0-1", 0, 0);
        odds("999+1", 0, 999);
        odds("999*999*9-999*999-999-900", 0, 100);
        odds("0-999*999*9+999*999+999+999+3", 0, 2);
        odds("2+3*4-5-1", 0, 8);
        odds("2*(3+4)", 0, 14);
        odds("left*100+near*10+cell", 1, 311);
        odds("7", 3, 0);
        may("last=4 and cell=0", 1);
        may("far=2", 1);
        may("hand=1", 7);
        may("habit=5 and kind>1", 6);
        may("left=3 and near=1", 6);
        may("not cell=1 and not cell=2", 1);
        may("not [cell=1 or cell=2]", 1);
        may("cell=0 or cell=1 and cell=2", 1);
        may("[cell=0 or cell=1] and cell=1", 2);
        may("cell<1", 1);
        may("cell>1", 4);
        may("not not cell>1", 4);
        may("1-2<0", 7);
        LastMark none = Checks.told("sheet 1 2;hand;may:last=9 and far=0 or cell=1;");
        Checks.due("no last one yet", none.hand(0, 1), 3);
        none.stroke(0, 0);
        Checks.due("the last one's kind now", none.hand(0, 1), 2);
    }
}
