/** Promises 31 to 35: habits, look, carried, changes, covers. */
public final class SeenTest {
    public static void main(String[] args) {
        habitsSeen();
        looking();
        carrying();
        changing();
        refusals();
        covering();
        coverRefusals();
        Checks.finish();
    }

    private static void habitsSeen() {
        LastMark x = Checks.told("sheet 1 4;hand;hand habit 3;may:cell<habit+2;");
        Checks.fill(x, 0, 0, 2);
        Checks.due("habits of 2", x.habits(0, 0), 1022);
        Checks.fill(x, 0, 0, 3, 2);
        Checks.due("habits of 3, 2", x.habits(0, 1), 1020);
        Checks.fill(x, 0, 0, 1, 0);
        Checks.due("habits of 1, 0", x.habits(0, 0), 1023);
        Checks.due("nothing is done", x.count(4), 0);
        Checks.due("the habit stays", x.hand(1, 0), 3);
        LastMark walk = Checks.told("sheet 1 4;last 0;hand;may:far=habit;");
        Checks.fill(walk, 2, 3, 1, 2, 3);
        Checks.due("one step each", walk.habits(2, 0), 2);
        Checks.fill(walk, 2, 3, 2, 1);
        Checks.due("two steps, then one", walk.habits(2, 0), 0);
        Checks.fill(walk, 2, 3, 1, 3);
        Checks.due("one step, then two", walk.habits(2, 0), 0);
        LastMark twelve = Checks.told("sheet 3 4;hand;may:near+left>habit;");
        Checks.fill(twelve, 1, 1, 0, 1, 2, 3, 4, 5, 6, 7, 8, 9, 10, 11);
        Checks.due("twelve are seen", twelve.habits(1, 0), 7);
        twelve.hide(0);
        twelve.stroke(0, 0);
        Checks.fill(twelve, 1, 1, 1, 2);
        Checks.due("X aside", twelve.habits(1, 0), 1023);
    }

    private static void looking() {
        LastMark x = Checks.told("sheet 1 12;hand;may:cell<habit+2;");
        Checks.fill(x, 0, 0, 2);
        Checks.due("habits 1 to 9 by cells 3 to 10", x.look(0, 0), 6);
        Checks.fill(x, 0, 0, 0, 1);
        Checks.due("habits 0 to 9", x.look(0, 0), 6);
        Checks.fill(x, 0, 0, 11);
        Checks.due("no habits", x.look(0, 0), -1);
        Checks.fill(x, 0, 0, 10);
        Checks.due("one habit: the first cell", x.look(0, 0), 0);
        x.stroke(0, 0);
        Checks.due("the first that isn't drawn", x.look(0, 0), 1);
        LastMark last = Checks.told("sheet 1 3;drawn 0;hand;may:habit=cell or cell=2;");
        Checks.fill(last, 0, 0, 2);
        Checks.due("look as it is now", last.look(0, 0), 1);
    }

    private static void carrying() {
        LastMark x = Checks.told("sheet 1 4;hand;hand habit 3;may:cell<habit+2;");
        Checks.fill(x, 0, 0, 2);
        Checks.due("carried 2", x.carried(0), 1);
        Checks.fill(x, 0, 0, 0, 1, 2);
        Checks.due("carried 0, 1, 2", x.carried(0), 4);
        LastMark four = Checks.told("sheet 3 4;hand;hand;hand;hand;");
        Checks.fill(four, 0, 0, 0, 1, 2, 3, 4, 5, 6, 7, 8, 9, 10, 11);
        Checks.due("four hands, twelve cells", four.carried(0), 16777216);
        Checks.fill(four, 0, 0, 5);
        Checks.due("carried 5", four.carried(0), 4);
        LastMark none = Checks.told("sheet 1 2;");
        Checks.fill(none, 0, 0, 0);
        Checks.due("no hands", none.carried(0), 0);
        LastMark no = Checks.told("sheet 1 2;hand;may:far=0;");
        Checks.fill(no, 0, 0, 0, 1);
        Checks.due("none could", no.carried(0), 0);
    }

    private static void changed(LastMark x, int changes, int... hands) {
        Checks.due("changes(0, 0)", x.changes(0, 0), changes);
        for (int i = 0; i < 12; i++) {
            Checks.due("changes(0, " + (10 + i) + ")", x.changes(0, 10 + i), i < hands.length ? hands[i] : -1);
        }
    }

    private static void changing() {
        LastMark x = Checks.told("sheet 1 4;hand;hand;may:hand=0 and cell<2 or hand=1 and cell>0;");
        Checks.fill(x, 0, 0, 0, 1, 2);
        changed(x, 1, 0, 0, 1);
        Checks.due("carried", x.carried(0), 2);
        Checks.fill(x, 0, 0, 1, 2, 3);
        changed(x, 0, 1, 1, 1);
        Checks.fill(x, 0, 0, 2, 0, 3);
        changed(x, 2, 1, 0, 1);
        Checks.fill(x, 0, 0, 1);
        changed(x, 0, 0);
        LastMark none = Checks.told("sheet 1 4;hand;hand;may:cell<2;");
        Checks.fill(none, 0, 0, 0, 2);
        changed(none, -1);
        Checks.fill(none, 0, 0, 2, 0);
        changed(none, -1);
        LastMark four = Checks.told("sheet 1 8;hand;hand;hand;hand;may:hand=3 or cell=hand or cell=hand+4;");
        Checks.fill(four, 0, 0, 0, 4, 1, 5, 2);
        changed(four, 0, 3, 3, 3, 3, 3);
        LastMark three = Checks.told("sheet 1 8;hand;hand;hand;hand;may:hand=2 and cell<5 or hand=0 and cell>3 or hand=1 and cell>2;");
        Checks.fill(three, 0, 0, 3, 4, 5, 6);
        changed(three, 0, 1, 1, 1, 1);
        Checks.fill(three, 0, 0, 2, 3, 4, 5, 6);
        changed(three, 1, 2, 1, 1, 1, 1);
        LastMark early = Checks.told("sheet 1 8;hand;hand;may:hand=0 and cell<4 or hand=1 and cell>1;");
        Checks.fill(early, 0, 0, 0, 2, 3, 5);
        changed(early, 1, 0, 0, 0, 1);
    }

    private static void refused(LastMark x, String of, int tray, int h, int due) {
        Checks.due("habits: " + of, x.habits(tray, h), due);
        Checks.due("look: " + of, x.look(tray, h), due);
        if (h == 0) {
            Checks.due("carried: " + of, x.carried(tray), due);
            Checks.due("changes: " + of, x.changes(tray, 0), due);
        }
    }

    private static void refusals() {
        LastMark x = Checks.told("sheet 1 4;drawn 3;hand;may:cell<habit+2;");
        refused(x, "no such tray", 4, 0, -2);
        refused(x, "no such tray", -1, 0, -2);
        refused(x, "missing", 0, 0, -6);
        refused(x, "no such hand", 0, 1, -2);
        refused(x, "no such hand", 0, -1, -2);
        Checks.due("changes: what ahead of missing", x.changes(0, 1), -2);
        Checks.due("changes(0, 9)", x.changes(0, 9), -2);
        Checks.due("changes(0, 22)", x.changes(0, 22), -2);
        Checks.due("changes(0, -1)", x.changes(0, -1), -2);
        Checks.fill(x, 0, 1);
        refused(x, "no numbers", 0, 0, -4);
        Checks.fill(x, 0, 1, 0, 1, 2, 0, 0, 0, 0, 0, 0, 0, 0, 0, 0);
        refused(x, "13 numbers", 0, 0, -4);
        Checks.fill(x, 0, 1, 0, 1, 2, 0, 0, 0, 0, 0, 0, 0, 0, 0);
        refused(x, "12 numbers, some twice", 0, 0, -3);
        Checks.fill(x, 0, 1, 0, 4);
        refused(x, "no cell", 0, 0, -3);
        Checks.fill(x, 0, 1, -1);
        refused(x, "no cell", 0, 0, -3);
        Checks.fill(x, 0, 3, 1L << 32);
        refused(x, "no cell", 0, 0, -3);
        Checks.fill(x, 0, 1, 0, 3);
        refused(x, "drawn ahead", 0, 0, -3);
        Checks.fill(x, 0, 1, 0, 1, 0);
        refused(x, "twice", 0, 0, -3);
        Checks.fill(x, 0, 1, 2, 9);
        refused(x, "-3 ahead of NONE", 0, 0, -3);
    }

    private static void covered(LastMark x, int c, int size, int bits) {
        Checks.due("covers(1, " + c + ", 0)", x.covers(1, c, 0), size);
        Checks.due("covers(1, " + c + ", 1)", x.covers(1, c, 1), bits);
    }

    private static void covering() {
        LastMark x = Checks.told("sheet 1 4;drawn 2;");
        Checks.fill(x, 1, 1, 0b0110, 0b1100, 0b1110, 0b0010);
        covered(x, 0, 1, 4);
        covered(x, 1, -1, -1);
        Checks.fill(x, 1, 1, 0b0110, 0b1000, 0b0010, 0b1100);
        covered(x, 0, 2, 3);
        Checks.fill(x, 1, 1, 0b0010, 0b0100, 0b1000, 0b1010);
        covered(x, 0, 2, 10);
        Checks.fill(x, 1, 1, 0b0010, 0b0100, 0b1000, 0b1111);
        covered(x, 0, 3, 7);
        covered(x, 3, -1, -1);
        Checks.fill(x, 1, 1, 0b1101, 0b0111, 0b1011, 0b1110, 0b1101);
        covered(x, 1, 1, 1);
        covered(x, 3, 1, 2);
        LastMark one = Checks.told("sheet 1 1;");
        Checks.fill(one, 1, 1, 0);
        covered(one, 0, 0, 0);
        Checks.fill(one, 1, 1, 1);
        covered(one, 0, 0, 0);
        LastMark twelve = Checks.told("sheet 3 4;");
        Checks.fill(twelve, 1, 1, 2, 4, 8, 16, 32, 64, 128, 256, 512, 3072);
        covered(twelve, 0, 10, 1023);
    }

    private static void coverRefusals() {
        LastMark x = Checks.told("sheet 1 4;");
        Checks.due("no such tray", x.covers(4, 0, 0), -2);
        Checks.due("no such tray", x.covers(-1, 0, 0), -2);
        Checks.due("no such cell", x.covers(0, 4, 0), -2);
        Checks.due("no such cell", x.covers(0, -1, 0), -2);
        Checks.due("what", x.covers(0, 0, 2), -2);
        Checks.due("what", x.covers(0, 0, -1), -2);
        Checks.due("missing", x.covers(0, 0, 0), -6);
        Checks.fill(x, 0, 1);
        Checks.due("no numbers", x.covers(0, 0, 0), -4);
        Checks.fill(x, 0, 1, 1, 1, 1, 1, 1, 1, 1, 1, 1, 1, 99);
        Checks.due("11 numbers", x.covers(0, 0, 0), -4);
        Checks.fill(x, 0, 1, 14, 16);
        Checks.due("no set of cells", x.covers(0, 0, 0), -3);
        Checks.fill(x, 0, 1, 14, -1);
        Checks.due("no set of cells", x.covers(0, 0, 1), -3);
        Checks.fill(x, 0, 3, 14, 1L << 40);
        Checks.due("no set of cells", x.covers(0, 0, 1), -3);
    }
}
