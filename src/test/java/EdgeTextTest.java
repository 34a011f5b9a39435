/** The edges of "Terms" up to "==== 2.": the sheet as a text, its tokens, its faults and their places. */
public final class EdgeTextTest {
    public static void main(String[] args) {
        atMost900Bytes();
        withoutOne();
        linesOrNone();
        eachLine();
        cutBehindEachToken();
        truths();
        truthsCutShort();
        sums();
        sumsCutShort();
        wordsOfLaws();
        sixWithinOneAnother();
        sizes();
        numberedRowByRow();
        kindsOfARow();
        asManyAsColumns();
        laterRows();
        habitsOfHands();
        fourHands();
        drawnOnceIsEnough();
        lastOnes();
        laterLaws();
        Checks.finish();
    }

    private static void atMost900Bytes() {
        Doc.terms("THE SHEET is a TEXT of at most 900 bytes");
        String text = "sheet 1 1;" + " ".repeat(882) + "drawn 0;";
        LastMark x = new LastMark();
        Checks.due("900 bytes are told", Checks.tape(x, text), 900);
        Checks.due("count(10)", x.count(10), 900);
        Checks.due("no byte more", x.feed(0, 0, 0, 0, 0), -5);
        Checks.due("sheet(901)", x.sheet(901), -3);
        Checks.due("sheet(900)", x.sheet(900), 2);
        Checks.due("the last line counts", x.count(4), 1);
        Checks.tape(x, text);
        Checks.due("sheet(899)", x.sheet(899), -32);
        Checks.due("its place", x.fault(1), 899);
        StringBuilder law = new StringBuilder("sheet 1 1;odds:0");
        while (law.length() < 898) {
            law.append("+1");
        }
        Checks.due("a law of 441 terms behind the first", Checks.reads(law + " ;", 2).cell(0, 3), 441);
    }

    private static void withoutOne() {
        Doc.terms("(without one: 1 row, 1 column, KIND 0, no HANDS)");
        LastMark x = new LastMark();
        Checks.counts(x, "without a text", 1, 1, 1, 0, 0, -1, -1, 0, 1, 0, 0, 0);
        Checks.due("its kind", x.cell(0, 0), 0);
        Checks.due("no cell 1", x.cell(1, 0), -2);
        Checks.due("no hand 0", x.hand(0, 0), -2);
    }

    private static void linesOrNone() {
        Doc.terms("sheet N N ; { LINE ; }");
        Checks.reads("sheet 1 1;", 1);
        Checks.reads("sheet 1 1;hand;", 2);
        Checks.reads("sheet 1 1;hand;drawn 0;hand;", 4);
        Checks.faulty("", 2, 0);
        Checks.faulty("sheet", 2, 5);
        Checks.faulty("sheet 1", 2, 7);
        Checks.faulty("sheet 1 1", 2, 9);
        Checks.faulty("sheet 1 1 hand;", 2, 10);
        Checks.faulty("sheet 1 1;hand", 2, 14);
        Checks.faulty("sheet 1 1;;", 2, 10);
        Checks.faulty("sheet 1 1;hand;;", 2, 15);
        StringBuilder many = new StringBuilder("sheet 1 1;");
        for (int i = 0; i < 98; i++) {
            many.append("drawn 0 ;");
        }
        Checks.reads(many.toString(), 99);
    }

    private static void eachLine() {
        Doc.terms("LINE: row N { N } | hand { FLAG } | drawn N | last N | may : TRUTH | odds : SUM. FLAG: habit N.");
        Checks.reads("sheet 1 1;row 0 0;hand;drawn 0;last 0;may:0=0;odds:0;", 7);
        Checks.reads("sheet 1 1;hand habit 1;hand habit 1 habit 2;", 3);
        Checks.faulty("sheet 1 1;row;", 2, 13);
        Checks.faulty("sheet 1 1;row 0;", 2, 15);
        Checks.faulty("sheet 1 1;hand 0;", 2, 15);
        Checks.faulty("sheet 1 1;hand habit;", 2, 20);
        Checks.faulty("sheet 1 1;hand habit 1 2;", 2, 23);
        Checks.faulty("sheet 1 1;drawn;", 2, 15);
        Checks.faulty("sheet 1 1;drawn 0 0;", 2, 18);
        Checks.faulty("sheet 1 1;last;", 2, 14);
        Checks.faulty("sheet 1 1;last 0 0;", 2, 17);
        Checks.faulty("sheet 1 1;may 0=0;", 2, 14);
        Checks.faulty("sheet 1 1;may:;", 2, 14);
        Checks.faulty("sheet 1 1;odds 0;", 2, 15);
        Checks.faulty("sheet 1 1;odds:;", 2, 15);
        Checks.faulty("sheet 1 1;habit 1;", 2, 10);
        Checks.faulty("sheet 1 1;rows 0 0;", 2, 10);
        Checks.faulty("sheet 1 1;bow 0 0;", 2, 10);
        Checks.faulty("sheet 1 1;land;", 2, 10);
    }

    /** A text that ends behind a token is whole behind a ; alone. */
    private static void cutBehindEachToken() {
        Doc.terms("2 it can't stand there (the end: the text's length;");
        String text = "sheet 2 2 ; row 1 8 7 ; hand habit 3 habit 4 ; drawn 1 ; last 2 ; "
            + "may : not [ cell < 3 and kind = ( near + 1 ) ] or left > 2 ; odds : ( 1 + kind ) * 2 - near ; ";
        int lines = 0;
        for (int end = text.indexOf(' '); end >= 0; end = text.indexOf(' ', end + 1)) {
            String cut = text.substring(0, end);
            if (cut.endsWith(";")) {
                lines++;
                Checks.reads(cut, lines);
            } else {
                Checks.faulty(cut, 2, end);
                Checks.faulty(cut + " \n ", 2, end + 3);
            }
        }
        Checks.due("all lines", lines, 7);
    }

    private static void may(String law, int due) {
        Checks.due("may: " + law, Checks.reads("sheet 1 4;hand;may:" + law + ";", 3).hand(0, 1), due);
    }

    private static void truths() {
        Doc.terms("TRUTH: BOTH { or BOTH }; BOTH: UNIT { and UNIT }; UNIT: not UNIT, [ TRUTH ], or SUM, one of = < >, "
            + "SUM.");
        may("cell=0 or cell=1 and cell=2", 1);
        may("cell=0 and cell=1 or cell=2", 4);
        may("cell=0 or cell=1 or cell=3", 11);
        may("cell<3 and cell<2 and cell<1", 1);
        may("not cell=0 and cell<2", 2);
        may("not cell=0 or cell=0", 15);
        may("not not cell=2", 4);
        may("not [cell=0 or cell=3]", 6);
        may("[cell=0 or cell=1] and cell>0", 2);
        may("cell>0 and [cell=0 or cell=1]", 2);
        may("cell>0 and [cell=0]", 0);
        may("cell<2 and not [cell=0 or cell=3] or cell=3", 10);
        may("[[cell=0]]", 1);
        may("1=1", 15);
        may("1=0", 0);
        may("1<1", 0);
        may("0<1", 15);
        may("1>1", 0);
        may("1>0", 15);
        may("1+1=2*1", 15);
    }

    private static void truthsCutShort() {
        Doc.terms("TRUTH: BOTH { or BOTH }");
        Checks.faulty("sheet 1 1;may:1;", 2, 15);
        Checks.faulty("sheet 1 1;may:1=;", 2, 16);
        Checks.faulty("sheet 1 1;may:=1;", 2, 14);
        Checks.faulty("sheet 1 1;may:1=1=1;", 2, 17);
        Checks.faulty("sheet 1 1;may:1==1;", 2, 16);
        Checks.faulty("sheet 1 1;may:1=1 or;", 2, 20);
        Checks.faulty("sheet 1 1;may:1=1 and;", 2, 21);
        Checks.faulty("sheet 1 1;may:1=1 and or 1=1;", 2, 22);
        Checks.faulty("sheet 1 1;may:1=1 not 1=1;", 2, 18);
        Checks.faulty("sheet 1 1;may:or 1=1;", 2, 14);
        Checks.faulty("sheet 1 1;may:not;", 2, 17);
        Checks.faulty("sheet 1 1;may:[];", 2, 15);
        Checks.faulty("sheet 1 1;may:[1=1;", 2, 18);
        Checks.faulty("sheet 1 1;may:[1=1];]", 2, 20);
        Checks.faulty("sheet 1 1;may:[1]=1;", 2, 16);
        Checks.faulty("sheet 1 1;may:(1=1);", 2, 16);
        Checks.faulty("sheet 1 1;may:[1=1]=1;", 2, 19);
    }

    private static void odds(String law, int due) {
        Checks.due("odds: " + law, Checks.reads("sheet 1 1;odds:" + law + ";", 2).cell(0, 3), due);
    }

    private static void sums() {
        Doc.terms("SUM: TERM { + TERM | - TERM }; TERM: ATOM { * ATOM };");
        odds("7", 7);
        odds("0", 0);
        odds("000", 0);
        odds("007", 7);
        odds("999", 999);
        odds("2+3*4", 14);
        odds("2*3+4", 10);
        odds("9-3-2", 4);
        odds("9-3+2", 8);
        odds("9-(3+2)", 4);
        odds("9-(3-2)", 8);
        odds("(2+3)*4", 20);
        odds("2*3*4", 24);
        odds("((5))", 5);
    }

    private static void sumsCutShort() {
        Doc.terms("ATOM: N, ( SUM ), cell, kind, near, left, in may hand, habit, last, far too.");
        Checks.faulty("sheet 1 1;odds:+1;", 2, 15);
        Checks.faulty("sheet 1 1;odds:-1;", 2, 15);
        Checks.faulty("sheet 1 1;odds:1+;", 2, 17);
        Checks.faulty("sheet 1 1;odds:1+-1;", 2, 17);
        Checks.faulty("sheet 1 1;odds:1**1;", 2, 17);
        Checks.faulty("sheet 1 1;odds:1*;", 2, 17);
        Checks.faulty("sheet 1 1;odds:1 1;", 2, 17);
        Checks.faulty("sheet 1 1;odds:();", 2, 16);
        Checks.faulty("sheet 1 1;odds:(1;", 2, 17);
        Checks.faulty("sheet 1 1;odds:1);", 2, 16);
        Checks.faulty("sheet 1 1;odds:(1)(1);", 2, 18);
        Checks.faulty("sheet 1 1;odds:1=1;", 2, 16);
        Checks.faulty("sheet 1 1;odds:[1];", 2, 15);
        Checks.faulty("sheet 1 1;odds:not 1;", 2, 15);
        Checks.faulty("sheet 1 1;odds:cells;", 2, 15);
        Checks.faulty("sheet 1 1;odds:cel;", 2, 15);
    }

    private static void wordsOfLaws() {
        Doc.terms("a word of the other law).");
        String[] both = {"cell", "kind", "near", "left"};
        String[] mayAlone = {"hand", "habit", "last", "far"};
        String[] neither = {"sheet", "row", "drawn", "may", "odds", "or", "and", "lasts", "x"};
        for (String word : both) {
            Checks.reads("sheet 1 1;odds:1+" + word + ";", 2);
            Checks.reads("sheet 1 1;may:1<" + word + ";", 2);
        }
        for (String word : mayAlone) {
            Checks.faulty("sheet 1 1;odds:1+" + word + ";", 2, 17);
            Checks.faulty("sheet 1 1;may:1=1;odds:" + word + ";", 2, 23);
            Checks.reads("sheet 1 1;may:1<" + word + ";", 2);
            Checks.reads("sheet 1 1;odds:1;may:" + word + "<1;", 3);
        }
        for (String word : neither) {
            Checks.faulty("sheet 1 1;odds:1+" + word + ";", 2, 17);
            Checks.faulty("sheet 1 1;may:1<" + word + ";", 2, 16);
        }
    }

    private static void sixWithinOneAnother() {
        Doc.terms("At most six of not [ ( within one another.");
        Checks.reads("sheet 1 1;odds:((((((1))))));", 2);
        Checks.reads("sheet 1 1;may:[[[[[[1=1]]]]]];", 2);
        Checks.reads("sheet 1 1;may:not not not not not not 1=1;", 2);
        Checks.reads("sheet 1 1;may:not [ not [ ( ( 1 ) ) = ( ( 1 ) ) ] ];", 2);
        Checks.reads("sheet 1 1;odds:((((((1))))))*((((((1))))))-((((((1))))));", 2);
        Checks.reads("sheet 1 1;may:[[[[[[1=1]]]]]] and not [[[[[1=1]]]]] or not not not not not not 1=1;", 2);
        Checks.reads("sheet 1 1;may:[1=1 and [1=1 and [1=1 and [1=1 and [1=1 and [1=1]]]]]];", 2);
    }

    /** Rows and columns, each just beside and far beside what is allowed. */
    private static void sizes() {
        Doc.terms("sheet: rows, columns, 1 to 12 each, 12 CELLS at most,");
        int[] some = {0, 1, 2, 3, 4, 5, 6, 7, 8, 9, 10, 11, 12, 13, 99, 256, 999};
        for (int rows : some) {
            for (int columns : some) {
                String head = "sheet " + rows + " ";
                if (rows < 1 || rows > 12) {
                    Checks.faulty(head + columns + ";", 3, 6);
                } else if (columns < 1 || rows * columns > 12) {
                    Checks.faulty(head + columns + ";", 3, head.length());
                } else {
                    Checks.counts(Checks.reads(head + columns + ";", 1), head + columns, rows, columns, rows * columns);
                }
            }
        }
    }

    private static void numberedRowByRow() {
        Doc.terms("numbered row by row from 0 on.");
        LastMark x = Checks.reads("sheet 3 4;row 0 0 1 2 3;row 1 4 5 6 7;row 2 8 1 2 5;", 4);
        int[] kinds = {0, 1, 2, 3, 4, 5, 6, 7, 8, 1, 2, 5};
        for (int c = 0; c < 12; c++) {
            Checks.due("kind of " + c, x.cell(c, 0), kinds[c]);
        }
        Checks.due("cell(-1, 0)", x.cell(-1, 0), -2);
        Checks.due("cell(12, 0)", x.cell(12, 0), -2);
        Checks.reads("sheet 3 4;drawn 11;last 11;", 3);
        Checks.faulty("sheet 3 4;drawn 12;", 3, 16);
        Checks.faulty("sheet 3 4;last 12;", 3, 15);
    }

    private static void kindsOfARow() {
        Doc.terms("row: its KINDS, 0 to 8,");
        for (int kind = 0; kind < 12; kind++) {
            String text = "sheet 1 2;row 0 1 " + kind + ";";
            if (kind <= 8) {
                Checks.due("its kind", Checks.reads(text, 2).cell(1, 0), kind);
            } else {
                Checks.faulty(text, 3, 18);
            }
        }
        Checks.faulty("sheet 1 1;row 0 999;", 3, 16);
        Checks.reads("sheet 12 1;row 11 8;", 2);
        Checks.faulty("sheet 12 1;row 12 8;", 3, 15);
        Checks.faulty("sheet 1 1;row 999 0;", 3, 14);
    }

    private static void asManyAsColumns() {
        Doc.terms("too many, too few KINDS: what stands in place of one;");
        Doc.terms("as many as columns");
        Checks.reads("sheet 1 12;row 0 1 1 1 1 1 1 1 1 1 1 1 1;", 2);
        Checks.faulty("sheet 1 12;row 0 1 1 1 1 1 1 1 1 1 1 1;", 2, 38);
        Checks.faulty("sheet 1 12;row 0 1 1 1 1 1 1 1 1 1 1 1 1 1;", 2, 41);
        Checks.faulty("sheet 1 2;row 0 1;", 2, 17);
        Checks.faulty("sheet 1 2;row 0 1 hand;", 2, 18);
        Checks.faulty("sheet 1 2;row 0 1 1 1;", 2, 20);
        Checks.faulty("sheet 1 2;row 0 1", 2, 17);
    }

    private static void laterRows() {
        Doc.terms("(all 0; a later one of the same row strikes).");
        LastMark none = Checks.reads("sheet 2 2;", 1);
        LastMark one = Checks.reads("sheet 2 2;row 1 3 4;", 2);
        LastMark two = Checks.reads("sheet 2 2;row 1 3 4;row 0 1 2;row 1 5 0;", 4);
        int[][] kinds = {{0, 0, 0, 0}, {0, 0, 3, 4}, {1, 2, 5, 0}};
        for (int c = 0; c < 4; c++) {
            Checks.due("no row: cell " + c, none.cell(c, 0), kinds[0][c]);
            Checks.due("one row: cell " + c, one.cell(c, 0), kinds[1][c]);
            Checks.due("the same row twice: cell " + c, two.cell(c, 0), kinds[2][c]);
        }
        LastMark again = Checks.reads("sheet 1 1;row 0 7;", 2);
        Checks.tell(again, "sheet 1 1;");
        Checks.due("all 0 in the next text", again.cell(0, 0), 0);
    }

    private static void habitsOfHands() {
        Doc.terms("hand: its HABIT, 0 to 9 (0; a later one strikes);");
        for (int n = 0; n < 12; n++) {
            String text = "sheet 1 1;hand habit " + n + ";";
            if (n <= 9) {
                Checks.due("its habit", Checks.reads(text, 2).hand(0, 0), n);
            } else {
                Checks.faulty(text, 3, 21);
            }
        }
        Checks.faulty("sheet 1 1;hand habit 1 habit 999;", 3, 29);
        Checks.due("none told", Checks.reads("sheet 1 1;hand;", 2).hand(0, 0), 0);
        Checks.due("a later one", Checks.reads("sheet 1 1;hand habit 9 habit 3 habit 4;", 2).hand(0, 0), 4);
        LastMark x = Checks.reads("sheet 1 1;hand habit 8;", 2);
        Checks.tell(x, "sheet 1 1;hand;");
        Checks.due("0 in the next text", x.hand(0, 0), 0);
    }

    private static void fourHands() {
        Doc.terms("numbered from 0 on, 4 at most.");
        LastMark x = Checks.reads("sheet 1 1;hand habit 1;hand habit 2;hand habit 3;hand habit 4;", 5);
        for (int h = 0; h < 4; h++) {
            Checks.due("hand " + h, x.hand(h, 0), h + 1);
        }
        Checks.due("hand(-1, 0)", x.hand(-1, 0), -2);
        Checks.due("hand(4, 0)", x.hand(4, 0), -2);
        Checks.due("count(3)", x.count(3), 4);
        Checks.due("one hand", Checks.reads("sheet 1 1;hand;", 2).hand(1, 0), -2);
    }

    private static void drawnOnceIsEnough() {
        Doc.terms("drawn: a CELL is DRAWN (once is enough).");
        LastMark x = Checks.reads("sheet 1 3;drawn 1;drawn 1;drawn 1;", 4);
        Checks.due("count(4)", x.count(4), 2);
        Checks.due("it is no last one", x.count(5), -1);
        Checks.due("none is drawn", Checks.reads("sheet 1 3;", 1).count(4), 0);
        Checks.due("all are drawn", Checks.reads("sheet 1 3;drawn 2;drawn 0;drawn 1;", 4).count(4), 7);
        Checks.faulty("sheet 1 3;drawn 3;", 3, 16);
    }

    private static void lastOnes() {
        Doc.terms("last: a CELL that is DRAWN by it, the LAST one (none; a later one strikes: the one ahead stays DRAWN).");
        LastMark one = Checks.reads("sheet 1 3;last 2;", 2);
        Checks.due("drawn by it", one.count(4), 4);
        Checks.due("the last one", one.count(5), 2);
        LastMark two = Checks.reads("sheet 1 3;last 2;last 0;", 3);
        Checks.due("both are drawn", two.count(4), 5);
        Checks.due("the later one", two.count(5), 0);
        LastMark drawn = Checks.reads("sheet 1 3;last 2;drawn 0;drawn 2;", 4);
        Checks.due("drawn behind it", drawn.count(5), 2);
        Checks.due("none", Checks.reads("sheet 1 3;drawn 0;", 2).count(5), -1);
        Checks.tell(two, "sheet 1 3;");
        Checks.due("none in the next text", two.count(5), -1);
        Checks.due("none drawn in the next text", two.count(4), 0);
        Checks.faulty("sheet 1 3;last 3;", 3, 15);
    }

    private static void laterLaws() {
        Doc.terms("Later ones of may, odds strike.");
        LastMark x = Checks.reads("sheet 1 3;may:1=2;odds:9;hand;may:cell=1;odds:cell;", 6);
        Checks.due("the later may", x.hand(0, 1), 2);
        Checks.due("the later odds", x.count(8), 3);
        Checks.tell(x, "sheet 1 3;hand;");
        Checks.due("no may in the next text", x.hand(0, 1), 7);
        Checks.due("no odds in the next text", x.count(8), 3);
        Checks.due("no odds in the next text", x.cell(0, 3), 1);
        longLawsAgain();
    }

    /** The longest law there can be is read by the same object as often as its calls allow. */
    private static void longLawsAgain() {
        StringBuilder law = new StringBuilder("sheet 1 1;hand;may:0");
        while (law.length() < 894) {
            law.append("+1");
        }
        LastMark x = new LastMark();
        for (int i = 0; i < 10; i++) {
            Checks.due("read again", Checks.tell(x, law + (i % 2 == 0 ? "=437;" : "<437;")), 3);
            Checks.due("the law", x.hand(0, 1), 1 - i % 2);
        }
    }
}
