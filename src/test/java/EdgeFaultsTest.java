/** The edges of "Terms" up to "==== 2.": tokens, and which fault is told at which place. */
public final class EdgeFaultsTest {
    private static final String SIGNS = ";:+-*()[]=<>";

    public static void main(String[] args) {
        goingOn();
        blanks();
        eachByteAlone();
        eachByteBehind();
        oneToThreeDigits();
        firstAlongTheText();
        leastKind();
        noTokenBeginsSo();
        sheetFirstAndOnce();
        outOfBounds();
        moreThanTwelve();
        fifthHand();
        seventh();
        Checks.finish();
    }

    private static void goingOn() {
        Doc.terms("TOKENS, as long as they go on,");
        Checks.reads("sheet1 1;", 1);
        Checks.faulty("sheet 11;", 2, 8);
        Checks.reads("sheet 1 1;hand habit3habit4;", 2);
        Checks.faulty("sheet 1 1;handhabit 3;", 2, 10);
        Checks.faulty("sheet 1 1;hands;", 2, 10);
        Checks.faulty("sheet 1 1;han;", 2, 10);
        Checks.faulty("sheet 1 1;han d;", 2, 10);
        Checks.faulty("sheets 1 1;", 2, 0);
        Checks.faulty("sheet 1 1;drawns 0;", 2, 10);
        Checks.faulty("sheet 1 1;hand habits 3;", 2, 15);
        Checks.reads("sheet 1 1;may:1=1and 2=2or 3<4;", 2);
        Checks.faulty("sheet 1 1;may:1=1andnot 2=2;", 2, 17);
        Checks.reads("sheet 1 1;may:not(1)=1and[not 1=1];", 2);
        Checks.faulty("sheet 1 1;" + "z".repeat(300) + ";", 2, 10);
        LastMark x = new LastMark();
        Checks.tape(x, "sheet 1 12;");
        Checks.due("n cuts a number", x.sheet(9), -32);
        Checks.due("its place", x.fault(1), 9);
        Checks.tape(x, "sheet 1 1;hand;");
        Checks.due("n cuts a word", x.sheet(13), -32);
        Checks.due("its place", x.fault(1), 10);
    }

    private static void blanks() {
        Doc.terms("between them blanks (10, 32):");
        Checks.reads("sheet 1 1;", 1);
        Checks.reads("\n \n sheet\n\n1 \n1\n;\n \n", 1);
        Checks.reads("sheet 1 1 ; hand habit 2 ; may : 1 + 2 * ( 3 ) = 4 and not [ 1 < 2 ] ; ", 3);
        for (int sign : new int[] {0, 9, 11, 12, 13, 31, 133, 160}) {
            Checks.faulty("sheet" + (char) sign + "1 1;", 1, 5);
            Checks.faulty("sheet 1 1;" + (char) sign, 1, 10);
        }
    }

    private static boolean isLetter(int sign) {
        return sign >= 97 && sign <= 122;
    }

    private static boolean isDigit(int sign) {
        return sign >= 48 && sign <= 57;
    }

    private static void eachByteAlone() {
        Doc.terms("words (small letters), N (1 to 3 digits), the signs ; : + - * ( ) [ ] = < >.");
        for (int sign = 0; sign < 256; sign++) {
            boolean blank = sign == 10 || sign == 32;
            boolean token = isLetter(sign) || isDigit(sign) || SIGNS.indexOf(sign) >= 0;
            Checks.faulty("" + (char) sign, blank || token ? 2 : 1, blank ? 1 : 0);
        }
    }

    private static void eachByteBehind() {
        Doc.terms("1 no TOKEN begins so");
        for (int sign = 0; sign < 256; sign++) {
            String text = "sheet 1 1" + (char) sign;
            if (sign == ';') {
                Checks.reads(text, 1);
            } else if (sign == 10 || sign == 32) {
                Checks.faulty(text, 2, 10);
            } else if (isDigit(sign)) {
                Checks.faulty(text, sign > '2' ? 3 : 2, sign > '2' ? 8 : 10);
            } else {
                Checks.faulty(text, isLetter(sign) || SIGNS.indexOf(sign) >= 0 ? 2 : 1, 9);
            }
        }
    }

    private static void oneToThreeDigits() {
        Doc.terms("(4 digits and more: at their first).");
        Checks.reads("sheet 001 012;", 1);
        Checks.due("999", Checks.reads("sheet 1 1;odds:999;", 2).cell(0, 3), 999);
        Checks.faulty("sheet 0001 1;", 1, 6);
        Checks.faulty("sheet 1 0012;", 1, 8);
        Checks.faulty("sheet 1 1;odds:1000;", 1, 15);
        Checks.faulty("sheet 1 1;odds:1+0000;", 1, 17);
        Checks.faulty("sheet 1 1;odds:1+" + "1".repeat(500) + ";", 1, 17);
        Checks.faulty("sheet 1 1;drawn 4294967296;", 1, 16);
        Checks.faulty("sheet 1 1;hand habit 2147483648;", 1, 21);
    }

    private static void firstAlongTheText() {
        Doc.terms("FAULTS, the first along the text,");
        Checks.faulty("sheet 13 1000;", 3, 6);
        Checks.faulty("sheet 1 13 $", 3, 8);
        Checks.faulty("sheet 1 1;row 0 9 $;", 3, 16);
        Checks.faulty("sheet 1 1;zoo $", 2, 10);
        Checks.faulty("sheet 1 1;odds:(((((((1 $", 4, 21);
        Checks.faulty("sheet 1 1;hand;hand;hand;hand;hand $", 4, 30);
        Checks.faulty("sheet 1 1;$ zoo", 1, 10);
        Checks.faulty("sheet 1 1;drawn 1;last 1;", 3, 16);
        Checks.faulty("sheet 1 1;odds:$(((((((1", 1, 15);
    }

    private static void leastKind() {
        Doc.terms("of one TOKEN the least kind:");
        Checks.faulty("sheet 1000 1;", 1, 6);
        Checks.faulty("sheet 1 1 9999;", 1, 10);
        Checks.faulty("sheet 1 1 999;", 2, 10);
        Checks.faulty("sheet 1 1;999;", 2, 10);
        Checks.faulty("sheet 1 1;hand 999;", 2, 15);
        Checks.faulty("sheet 1 1;row 0 1 999;", 2, 18);
        Checks.faulty("sheet 1 1;row 0 1 9999;", 1, 18);
        Checks.faulty("sheet 1 1;hand;hand;hand;hand hand;", 2, 30);
        Checks.faulty("sheet 1 1;hand;hand;hand;hand;hands;", 2, 30);
        Checks.faulty("sheet 1 1;hand;hand;hand;hand;Hand;", 1, 30);
        Checks.faulty("sheet 1 1;odds:((((((1(", 2, 22);
        Checks.faulty("sheet 1 1;odds:(((((([", 2, 21);
        Checks.faulty("sheet 1 1;may:[[[[[[1=1 not", 2, 24);
        Checks.faulty("sheet 1 1;may:[[[[[[1 [", 2, 22);
    }

    private static void noTokenBeginsSo() {
        Doc.terms("1 no TOKEN begins so (4 digits and more: at their first).");
        Checks.faulty("Sheet 1 1;", 1, 0);
        Checks.faulty("sheeT 1 1;", 2, 0);
        Checks.faulty(" sheet T", 1, 7);
        Checks.faulty("sheet 1 1;may:1!=1;", 1, 15);
        Checks.faulty("sheet 1 1;may:1 $", 1, 16);
        Checks.faulty("sheet 1 1;hand habit $", 1, 21);
        Checks.faulty("sheet 1 1;row $", 1, 14);
        Checks.faulty("sheet 1 1;drawn 0 $", 1, 18);
        Checks.faulty("sheet 1 1;odds:1.5;", 1, 16);
    }

    private static void sheetFirstAndOnce() {
        Doc.terms("sheet must be told first, and once;");
        Checks.faulty("hand;sheet 1 1;", 2, 0);
        Checks.faulty(";sheet 1 1;", 2, 0);
        Checks.faulty("1 1;", 2, 0);
        Checks.faulty("sheet 1 1;sheet 1 1;", 2, 10);
        Checks.faulty("sheet sheet 1 1;", 2, 6);
        Checks.faulty("cheet 1 1;", 2, 0);
        Checks.faulty("heet 1 1;", 2, 0);
        Checks.faulty("sheet 1 1;hand;sheet 2 2;", 2, 15);
    }

    private static void outOfBounds() {
        Doc.terms("3 an N out of its bounds");
        Checks.faulty("sheet 0 1;", 3, 6);
        Checks.faulty("sheet 1 0;", 3, 8);
        Checks.faulty("sheet 2 2;row 2 0 0;", 3, 14);
        Checks.faulty("sheet 2 2;row 1 0 9;", 3, 18);
        Checks.faulty("sheet 2 2;hand habit 10;", 3, 21);
        Checks.faulty("sheet 2 2;drawn 4;", 3, 16);
        Checks.faulty("sheet 2 2;last 4;", 3, 15);
        Checks.reads("sheet 2 2;row 1 0 8;hand habit 9;drawn 3;last 3;may:999=999;odds:999;", 7);
    }

    private static void moreThanTwelve() {
        Doc.terms("(columns: more than 12 CELLS).");
        Checks.reads("sheet 2 6;", 1);
        Checks.faulty("sheet 2 7;", 3, 8);
        Checks.reads("sheet 3 4;", 1);
        Checks.faulty("sheet 3 5;", 3, 8);
        Checks.reads("sheet 5 2;", 1);
        Checks.faulty("sheet 5 3;", 3, 8);
        Checks.reads("sheet 12 1;", 1);
        Checks.faulty("sheet 12 2;", 3, 9);
        Checks.faulty("sheet 12 12;", 3, 9);
        Checks.faulty("sheet 13 0;", 3, 6);
    }

    private static void fifthHand() {
        Doc.terms("4 the first TOKEN of a 5th hand;");
        Checks.reads("sheet 1 1;hand;hand;hand;hand;", 5);
        Checks.faulty("sheet 1 1;hand;hand;hand;hand;hand;", 4, 30);
        Checks.faulty("sheet 1 1;hand;hand;hand;hand; hand habit 10;", 4, 31);
        Checks.faulty("sheet 1 1;hand;hand;hand;hand;drawn 0;hand", 4, 38);
        Checks.faulty("sheet 1 1;hand;hand;hand;hand;drawn 1;hand", 3, 36);
        LastMark x = Checks.reads("sheet 1 1;hand;hand;hand;hand;", 5);
        Checks.due("four hands in the next text", Checks.tell(x, "sheet 1 1;hand;hand;hand;hand;"), 5);
    }

    /** Seven of them, the first ones by turns not and [, the others (. */
    private static void seventh() {
        Doc.terms("a seventh of not [ (.");
        for (int outer = 0; outer <= 7; outer++) {
            StringBuilder text = new StringBuilder("sheet 1 1;may:");
            StringBuilder closing = new StringBuilder();
            int place = 0;
            for (int i = 0; i < 7; i++) {
                place = text.length();
                String sign = i >= outer ? "(" : i % 2 == 0 ? "not " : "[";
                text.append(sign);
                closing.insert(0, sign.equals("[") ? "]" : "");
            }
            text.append("1").append(")".repeat(7 - outer)).append("=1").append(closing).append(";");
            Checks.faulty(text.toString(), 4, place);
        }
        Checks.faulty("sheet 1 1;odds:(((((((1)))))));", 4, 21);
        Checks.faulty("sheet 1 1;may:not not not not not not not 1=1;", 4, 38);
        Checks.faulty("sheet 1 1;may:[[[[[[[1=1]]]]]]];", 4, 20);
        Checks.faulty("sheet 1 1;may:[[[[[[1=(1)]]]]]];", 4, 22);
        Checks.faulty("sheet 1 1;may:[[[[[[1=1]]]]]] and [[[[[[[1=1]]]]]]];", 4, 40);
        Checks.faulty("sheet 1 1;odds:((((((1))))))+(((((((1)))))));", 4, 35);
        Checks.faulty("sheet 1 1;may:not not not not not not [1=1];", 4, 38);
    }
}
