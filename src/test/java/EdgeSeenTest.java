/** The edges of promises 31 to 37: habits, look, carried, changes, covers, chance, latest. */
public final class EdgeSeenTest {
    public static void main(String[] args) {
        habitsSeen();
        oneToTwelveSeen();
        refusedHabits();
        noCellSeen();
        drawnAheadOrTwice();
        lookedAt();
        lookAtNone();
        refusedLook();
        carried();
        refusedCarried();
        changes();
        handsOfTheFewest();
        noChanges();
        refusedChanges();
        covers();
        leastSetOfPlaces();
        noCovers();
        oneToTenSheets();
        noSetOfCells();
        refusedCovers();
        chance();
        chanceOfNothing();
        chanceOfDrawnOnes();
        refusedChance();
        latest();
        latestOfNone();
        refusedLatest();
        Checks.finish();
    }

    private static LastMark sample() {
        return Checks.reads("sheet 1 4;hand;hand habit 3;drawn 3;may:cell<habit+1;", 5);
    }

    private static void habitsSeen() {
        Doc.promise(31, "HABITS, as bits.");
        Doc.terms("CELLS DRAWN one behind the other from now on: HABITS 0 to 9 of a HAND by which it may;");
        LastMark x = sample();
        Checks.fill(x, 0, 0, 0);
        Checks.due("all ten", x.habits(0, 0), 1023);
        Checks.fill(x, 0, 0, 2);
        Checks.due("2 to 9", x.habits(0, 0), 1020);
        Checks.due("its own habit doesn't matter", x.habits(0, 1), 1020);
        Checks.due("and stays", x.hand(1, 0), 3);
        LastMark nine = Checks.reads("sheet 1 12;hand;may:cell=habit+1;", 3);
        Checks.fill(nine, 0, 0, 10);
        Checks.due("9 alone", nine.habits(0, 0), 512);
        Checks.fill(nine, 0, 0, 1);
        Checks.due("0 alone", nine.habits(0, 0), 1);
        Checks.fill(nine, 0, 0, 11);
        Checks.due("none", nine.habits(0, 0), 0);
        Checks.fill(nine, 0, 0, 10, 1);
        Checks.due("by one habit not both", nine.habits(0, 0), 0);
        LastMark walk = Checks.reads("sheet 1 4;hand;last 0;may:far=habit;", 4);
        Checks.fill(walk, 0, 0, 1, 2, 3);
        Checks.due("one behind the other", walk.habits(0, 0), 2);
        Checks.due("nothing is drawn by it", walk.count(4), 1);
    }

    private static void oneToTwelveSeen() {
        Doc.promise(31, "-4: not 1 to 12 numbers;");
        Doc.terms("SEEN in a TRAY (1 to 12 numbers):");
        LastMark x = Checks.reads("sheet 3 4;hand;hand;", 3);
        x.numbers(0, 1, 0);
        seenRefused(x, 0, "no numbers", -4);
        for (int n : new int[] {13, 14, 39, 40}) {
            x.numbers(0, 1, n);
            seenRefused(x, 0, n + " numbers, all of them 0", -4);
        }
        x.numbers(0, 1, 12);
        for (int c = 0; c < 12; c++) {
            x.write(0, c, 11 - c);
        }
        Checks.due("twelve", x.habits(0, 0), 1023);
        Checks.due("twelve", x.look(0, 0), 0);
        Checks.due("twelve", x.carried(0), 4096);
        Checks.due("twelve", x.changes(0, 0), 0);
        Checks.due("twelve", x.changes(0, 21), 0);
        Checks.fill(x, 0, 1, 11);
        Checks.due("one", x.habits(0, 0), 1023);
        Checks.due("one", x.carried(0), 2);
        Checks.due("one", x.changes(0, 10), 0);
    }

    /** The same refusal by all calls of what is seen. */
    private static void seenRefused(LastMark x, int tray, String of, int code) {
        Checks.due("habits: " + of, x.habits(tray, 0), code);
        Checks.due("look: " + of, x.look(tray, 0), code);
        Checks.due("carried: " + of, x.carried(tray), code);
        Checks.due("changes: " + of, x.changes(tray, 0), code);
        Checks.due("changes: " + of, x.changes(tray, 21), code);
    }

    private static void refusedHabits() {
        Doc.promise(31, "-2: the TRAY, the HAND; -6;");
        LastMark x = sample();
        int[][] due = {{-1, 0, -2}, {4, 0, -2}, {0, -1, -2}, {0, 2, -2}, {4, 2, -2}, {Integer.MAX_VALUE, 0, -2},
            {0, Integer.MIN_VALUE, -2}, {0, 0, -6}, {3, 1, -6}};
        for (int[] d : due) {
            Checks.due("habits(" + d[0] + ", " + d[1] + ")", x.habits(d[0], d[1]), d[2]);
        }
        x.numbers(0, 0, 0);
        Checks.due("-2 goes ahead of -4", x.habits(0, 2), -2);
        Checks.fill(x, 0, 0, 99);
        Checks.due("-2 goes ahead of -3", x.habits(0, 2), -2);
        x.numbers(0, 0, 13);
        x.write(0, 0, 99);
        Checks.due("-4 goes ahead of -3", x.habits(0, 0), -4);
    }

    private static void noCellSeen() {
        Doc.promise(31, "-3: one is no CELL,");
        LastMark x = sample();
        for (long v : new long[] {-1, 4, 12, 100, 1L << 32, (1L << 32) + 1, -(1L << 32), Long.MAX_VALUE, Long.MIN_VALUE}) {
            Checks.fill(x, 0, 3, v);
            seenRefused(x, 0, "no cell " + v, -3);
            Checks.fill(x, 0, 3, 0, 1, v);
            seenRefused(x, 0, "no cell " + v + " behind others", -3);
        }
    }

    private static void drawnAheadOrTwice() {
        Doc.promise(31, "is DRAWN ahead, stands twice.");
        LastMark x = sample();
        Checks.fill(x, 0, 0, 3);
        seenRefused(x, 0, "drawn ahead", -3);
        Checks.fill(x, 0, 0, 0, 1, 3);
        seenRefused(x, 0, "drawn ahead, behind others", -3);
        Checks.fill(x, 0, 0, 0, 0);
        seenRefused(x, 0, "twice", -3);
        Checks.fill(x, 0, 0, 1, 0, 1);
        seenRefused(x, 0, "twice", -3);
        x.rub(3);
        Checks.fill(x, 0, 0, 3);
        Checks.due("rubbed: no more", x.habits(0, 0), 1016);
        LastMark full = Checks.reads("sheet 1 1;hand;drawn 0;", 3);
        Checks.fill(full, 0, 0, 0);
        seenRefused(full, 0, "all are drawn", -3);
    }

    private static void lookedAt() {
        Doc.promise(32, "The CELL that isn't DRAWN now to look at next: the lesser number of these HABITS by which the HAND may draw "
            + "it now, or may not, is greatest, the first.");
        LastMark x = Checks.reads("sheet 1 12;hand;may:cell<habit+2;", 3);
        Checks.fill(x, 0, 0, 0);
        Checks.due("of ten five and five", x.look(0, 0), 6);
        Checks.fill(x, 0, 0, 2);
        Checks.due("of nine five and four, and four and five", x.look(0, 0), 6);
        Checks.fill(x, 0, 0, 10);
        Checks.due("of one: all alike, the first", x.look(0, 0), 0);
        x.stroke(0, 0);
        Checks.due("that isn't drawn now", x.look(0, 0), 1);
        LastMark seen = Checks.reads("sheet 1 3;hand;may:cell=0 or cell=1 and habit<5 or cell=2 and habit=0;", 3);
        Checks.fill(seen, 0, 0, 0);
        Checks.due("one and nine, or five and five", seen.look(0, 0), 1);
        Checks.fill(seen, 0, 0, 1);
        Checks.due("one and four", seen.look(0, 0), 2);
        LastMark now = Checks.reads("sheet 1 3;hand;may:cell=0 or near=1 and habit<5;", 3);
        Checks.fill(now, 0, 0, 0);
        Checks.due("what was seen isn't drawn now", now.look(0, 0), 0);
    }

    private static void lookAtNone() {
        Doc.promise(32, "NONE: there are no such CELLS, no HABITS;");
        LastMark x = Checks.reads("sheet 1 3;hand;may:1=2;", 3);
        Checks.fill(x, 0, 0, 0);
        Checks.due("no habits", x.look(0, 0), -1);
        LastMark two = Checks.reads("sheet 1 3;hand;may:far=0 or last=9;", 3);
        Checks.fill(two, 0, 0, 0, 1);
        Checks.due("no habits by the second", two.look(0, 0), -1);
    }

    private static void refusedLook() {
        Doc.promise(32, "as habits().");
        LastMark x = sample();
        int[][] due = {{-1, 0, -2}, {4, 0, -2}, {0, -1, -2}, {0, 2, -2}, {0, 0, -6}};
        for (int[] d : due) {
            Checks.due("look(" + d[0] + ", " + d[1] + ")", x.look(d[0], d[1]), d[2]);
        }
        x.numbers(0, 0, 0);
        Checks.due("-4", x.look(0, 0), -4);
        x.numbers(0, 0, 13);
        Checks.due("-4", x.look(0, 0), -4);
        Checks.fill(x, 0, 0, 3);
        Checks.due("-3", x.look(0, 0), -3);
        Checks.due("-2 goes ahead", x.look(0, 2), -2);
    }

    private static void carried() {
        Doc.promise(33, "How many ROWS of HANDS.");
        Doc.terms("or, by whom each was DRAWN: ROWS of HANDS each of whom may;");
        LastMark four = Checks.reads("sheet 3 4;hand;hand;hand;hand;", 5);
        Checks.fill(four, 0, 0, 0, 1, 2, 3, 4, 5, 6, 7, 8, 9, 10, 11);
        Checks.due("four hands, twelve cells", four.carried(0), 16777216);
        LastMark none = Checks.reads("sheet 1 1;", 1);
        Checks.fill(none, 0, 0, 0);
        Checks.due("no hands", none.carried(0), 0);
        LastMark x = sample();
        Checks.fill(x, 0, 0, 0, 1, 2);
        Checks.due("two, one and one", x.carried(0), 2);
        LastMark late = Checks.reads("sheet 1 3;hand;hand;may:hand=0 or left=3;", 4);
        Checks.fill(late, 0, 0, 2, 1, 0);
        Checks.due("two, then one each", late.carried(0), 2);
        LastMark no = Checks.reads("sheet 1 3;hand;hand;may:left=3;", 4);
        Checks.fill(no, 0, 0, 2, 1);
        Checks.due("none the second", no.carried(0), 0);
    }

    private static void refusedCarried() {
        Doc.promise(33, "-2: the TRAY; -6; -4; -3 as habits().");
        LastMark x = sample();
        for (int t : new int[] {-1, 4, Integer.MAX_VALUE, Integer.MIN_VALUE}) {
            Checks.due("carried(" + t + ")", x.carried(t), -2);
        }
        Checks.due("missing", x.carried(0), -6);
        x.numbers(0, 0, 0);
        Checks.due("no numbers", x.carried(0), -4);
        x.numbers(0, 0, 13);
        Checks.due("13 numbers", x.carried(0), -4);
        Checks.fill(x, 0, 0, 3);
        Checks.due("drawn ahead", x.carried(0), -3);
    }

    private static void changed(LastMark x, int changes, int... hands) {
        Checks.due("changes(0, 0)", x.changes(0, 0), changes);
        for (int i = 0; i < 12; i++) {
            Checks.due("changes(0, " + (10 + i) + ")", x.changes(0, 10 + i), i < hands.length ? hands[i] : -1);
        }
    }

    private static void changes() {
        Doc.promise(34, "Of these ROWS that of the fewest CHANGES, of like ones the first, what 0: how many CHANGES,");
        Doc.terms("CHANGES: how often the HAND is another one than ahead.");
        LastMark x = Checks.reads("sheet 1 6;hand;hand;may:hand=0 and cell<4 or hand=1 and cell>1;", 4);
        Checks.fill(x, 0, 0, 0);
        changed(x, 0, 0);
        Checks.fill(x, 0, 0, 5);
        changed(x, 0, 1);
        Checks.fill(x, 0, 0, 0, 5, 1, 4);
        changed(x, 3, 0, 1, 0, 1);
        Checks.fill(x, 0, 0, 0, 2, 3, 5);
        changed(x, 1, 0, 0, 0, 1);
        Checks.fill(x, 0, 0, 5, 2, 3, 0);
        changed(x, 1, 1, 0, 0, 0);
        Checks.fill(x, 0, 0, 2, 3);
        changed(x, 0, 0, 0);
        LastMark turns = Checks.reads("sheet 3 4;hand;hand;may:hand=0 and cell<6 or hand=1 and cell>5;", 4);
        Checks.fill(turns, 0, 0, 0, 6, 1, 7, 2, 8, 3, 9, 4, 10, 5, 11);
        changed(turns, 11, 0, 1, 0, 1, 0, 1, 0, 1, 0, 1, 0, 1);
    }

    private static void handsOfTheFewest() {
        Doc.promise(34, "10 + i: the i-th HAND (NONE: not so many).");
        LastMark four = Checks.reads("sheet 3 4;hand;hand;hand;hand;may:hand=3 or cell<hand*4 and cell>hand*4-5;", 6);
        Checks.fill(four, 0, 0, 0, 1, 2, 3, 4, 5, 6, 7, 8, 9, 10, 11);
        changed(four, 0, 3, 3, 3, 3, 3, 3, 3, 3, 3, 3, 3, 3);
        Checks.fill(four, 0, 0, 0);
        changed(four, 0, 1);
        Checks.due("not so many", four.changes(0, 11), -1);
        Checks.due("not so many", four.changes(0, 21), -1);
    }

    private static void noChanges() {
        Doc.promise(34, "NONE: there are none;");
        LastMark x = Checks.reads("sheet 1 3;hand;hand;may:cell<2;", 4);
        Checks.fill(x, 0, 0, 0, 2);
        changed(x, -1);
        Checks.fill(x, 0, 0, 2, 0);
        changed(x, -1);
        LastMark none = Checks.reads("sheet 1 1;", 1);
        Checks.fill(none, 0, 0, 0);
        changed(none, -1);
    }

    private static void refusedChanges() {
        Doc.promise(34, "-2: also what (10 to 21); as carried().");
        LastMark x = sample();
        for (int t : new int[] {-1, 4, Integer.MAX_VALUE, Integer.MIN_VALUE}) {
            Checks.due("changes(" + t + ", 0)", x.changes(t, 0), -2);
        }
        for (int what : new int[] {-1, 1, 2, 9, 22, Integer.MAX_VALUE, Integer.MIN_VALUE}) {
            Checks.due("changes(0, " + what + ") ahead of missing", x.changes(0, what), -2);
        }
        Checks.due("missing", x.changes(0, 0), -6);
        Checks.due("missing", x.changes(3, 21), -6);
        x.numbers(0, 0, 0);
        Checks.due("no numbers", x.changes(0, 10), -4);
        Checks.due("what goes ahead", x.changes(0, 9), -2);
        x.numbers(0, 0, 13);
        Checks.due("13 numbers", x.changes(0, 10), -4);
        Checks.fill(x, 0, 0, 3);
        Checks.due("drawn ahead", x.changes(0, 0), -3);
        Checks.due("drawn ahead", x.changes(0, 21), -3);
    }

    private static void covered(LastMark x, int c, int size, int places) {
        Checks.due("covers(0, " + c + ", 0)", x.covers(0, c, 0), size);
        Checks.due("covers(0, " + c + ", 1)", x.covers(0, c, 1), places);
    }

    private static void covers() {
        Doc.promise(35, "SHEETS, what 0: how many, 1: which, as bits.");
        Doc.terms("the fewest of them in which all CELLS are but one told, and that one in none of them,");
        LastMark x = Checks.reads("sheet 1 4;drawn 2;", 2);
        Checks.fill(x, 0, 1, 0b1110, 0b1101, 0b1011, 0b0111);
        for (int c = 0; c < 4; c++) {
            covered(x, c, 1, 1 << c);
        }
        Checks.fill(x, 0, 1, 0b0010, 0b0100, 0b1000, 0b1111);
        covered(x, 0, 3, 7);
        LastMark one = Checks.reads("sheet 1 1;", 1);
        Checks.fill(one, 0, 1, 0);
        covered(one, 0, 0, 0);
        Checks.fill(one, 0, 1, 1);
        covered(one, 0, 0, 0);
        LastMark twelve = Checks.reads("sheet 3 4;", 1);
        Checks.fill(twelve, 0, 1, 2, 4, 8, 16, 32, 64, 128, 256, 512, 3072);
        covered(twelve, 0, 10, 1023);
        Checks.fill(twelve, 0, 1, 2047);
        covered(twelve, 11, 1, 1);
    }

    private static void leastSetOfPlaces() {
        Doc.terms("of like ones the least set of places as bits.");
        LastMark x = Checks.reads("sheet 1 4;", 1);
        Checks.fill(x, 0, 1, 0b0110, 0b1000, 0b1100, 0b0010);
        covered(x, 0, 2, 0b0011);
        Checks.fill(x, 0, 1, 0b0110, 0b0010, 0b1000, 0b1100);
        covered(x, 0, 2, 0b0101);
        Checks.fill(x, 0, 1, 0b0010, 0b0110, 0b1000, 0b1100);
        covered(x, 0, 2, 0b0110);
        Checks.fill(x, 0, 1, 0b1110, 0b1110, 0b1110);
        covered(x, 0, 1, 1);
        Checks.fill(x, 0, 1, 0b1111, 0b0000, 0b1110);
        covered(x, 0, 1, 4);
        Checks.fill(x, 0, 1, 0b0010, 0b0100, 0b1000, 0, 0, 0, 0, 0, 0, 0b1110);
        covered(x, 0, 1, 512);
    }

    private static void noCovers() {
        Doc.promise(35, "NONE: there are none such;");
        LastMark x = Checks.reads("sheet 1 4;", 1);
        Checks.fill(x, 0, 1, 0);
        covered(x, 0, -1, -1);
        Checks.fill(x, 0, 1, 0b1111);
        covered(x, 0, -1, -1);
        Checks.fill(x, 0, 1, 0b0010, 0b0100);
        covered(x, 0, -1, -1);
        Checks.fill(x, 0, 1, 0b1110);
        covered(x, 0, 1, 1);
        covered(x, 1, -1, -1);
    }

    private static void oneToTenSheets() {
        Doc.promise(35, "-4: not 1 to 10 numbers;");
        Doc.terms("SHEETS in a TRAY (1 to 10 numbers, each a set of CELLS as bits):");
        LastMark x = Checks.reads("sheet 1 2;", 1);
        for (int n : new int[] {0, 11, 12, 40}) {
            x.numbers(0, 1, n);
            covered(x, 0, -4, -4);
        }
        x.write(0, 39, 99);
        covered(x, 0, -4, -4);
        x.numbers(0, 1, 10);
        covered(x, 0, -1, -1);
        x.write(0, 9, 2);
        covered(x, 0, 1, 512);
        Checks.fill(x, 0, 1, 1);
        covered(x, 1, 1, 1);
    }

    private static void noSetOfCells() {
        Doc.promise(35, "-3: one is no set of CELLS.");
        LastMark x = Checks.reads("sheet 1 4;", 1);
        for (long v : new long[] {-1, 16, 17, 4096, 1L << 32, (1L << 32) + 14, Long.MAX_VALUE, Long.MIN_VALUE}) {
            Checks.fill(x, 0, 3, 14, v);
            covered(x, 0, -3, -3);
            Checks.fill(x, 0, 3, v);
            covered(x, 1, -3, -3);
        }
        Checks.fill(x, 0, 3, 0, 15);
        covered(x, 0, -1, -1);
        LastMark twelve = Checks.reads("sheet 3 4;", 1);
        Checks.fill(twelve, 0, 2, 4095);
        covered(twelve, 0, -1, -1);
        Checks.fill(twelve, 0, 2, 4096);
        covered(twelve, 0, -3, -3);
    }

    private static void refusedCovers() {
        Doc.promise(35, "-2: the TRAY, the CELL, what; -6;");
        LastMark x = Checks.reads("sheet 1 4;", 1);
        int[][] due = {{-1, 0, 0, -2}, {4, 0, 0, -2}, {0, -1, 0, -2}, {0, 4, 0, -2}, {0, 0, -1, -2}, {0, 0, 2, -2}, {0, 33, 0, -2},
            {Integer.MAX_VALUE, 0, 0, -2}, {0, Integer.MIN_VALUE, 0, -2}, {0, 0, Integer.MAX_VALUE, -2}, {0, 0, 0, -6}, {3, 3, 1, -6}};
        for (int[] d : due) {
            Checks.due("covers(" + d[0] + ", " + d[1] + ", " + d[2] + ")", x.covers(d[0], d[1], d[2]), d[3]);
        }
        x.numbers(0, 1, 11);
        Checks.due("-2 goes ahead of -4", x.covers(0, 4, 0), -2);
        x.write(0, 0, 99);
        Checks.due("-4 goes ahead of -3", x.covers(0, 0, 0), -4);
    }

    private static void chance(LastMark x, int c, int n, long above, long below) {
        Checks.due("chance(0, " + c + ", " + n + ", 0)", x.chance(0, c, n, 0), above);
        Checks.due("chance(0, " + c + ", " + n + ", 1)", x.chance(0, c, n, 1), below);
    }

    private static void chance() {
        Doc.promise(36, "CHANCE, what 0: the number above, 1: below");
        Doc.terms("CHANCE of a HAND for a CELL: in n STROKES (0 to 4), each of all that may be as likely");
        Doc.terms("how likely the CELL is DRAWN, in lowest terms.");
        LastMark x = Checks.reads("sheet 1 5;hand;", 2);
        chance(x, 4, 0, 0, 1);
        chance(x, 4, 1, 1, 5);
        chance(x, 4, 2, 2, 5);
        chance(x, 4, 3, 3, 5);
        chance(x, 4, 4, 4, 5);
        chance(Checks.reads("sheet 3 4;hand;", 2), 11, 4, 1, 3);
        LastMark walk = Checks.reads("sheet 1 3;hand;may:far<2;", 3);
        chance(walk, 0, 2, 1, 2);
        chance(walk, 1, 2, 1, 1);
        chance(walk, 0, 3, 5, 6);
        LastMark steps = Checks.reads("sheet 3 4;hand;may:far<3;", 3);
        chance(steps, 0, 2, 1111, 7560);
        LastMark two = Checks.reads("sheet 1 4;hand;hand;may:cell<hand+3;", 4);
        chance(two, 2, 1, 1, 3);
        Checks.due("another hand", two.chance(1, 2, 1, 1), 4);
        Checks.due("the first again", two.chance(0, 2, 1, 1), 3);
        two.stroke(0, 0);
        Checks.due("behind a stroke", two.chance(0, 2, 1, 1), 2);
    }

    private static void chanceOfNothing() {
        Doc.terms("(if there are none, nothing is DRAWN):");
        chance(Checks.reads("sheet 1 2;hand;may:1=2;", 3), 0, 4, 0, 1);
        chance(Checks.reads("sheet 1 2;hand;", 2), 0, 4, 1, 1);
        chance(Checks.reads("sheet 1 1;hand;", 2), 0, 4, 1, 1);
        LastMark apart = Checks.reads("sheet 1 3;hand;may:near=0;", 3);
        chance(apart, 0, 4, 2, 3);
        chance(apart, 1, 4, 1, 3);
    }

    private static void chanceOfDrawnOnes() {
        Doc.promise(36, "(a CELL that is DRAWN: 1 by 1).");
        LastMark x = Checks.reads("sheet 1 2;hand;drawn 1;may:1=2;", 4);
        for (int n = 0; n <= 4; n++) {
            chance(x, 1, n, 1, 1);
            chance(x, 0, n, 0, 1);
        }
    }

    private static void refusedChance() {
        Doc.promise(36, "-2: the HAND, the CELL, what; -3: n.");
        LastMark x = Checks.reads("sheet 1 3;hand;drawn 0;", 3);
        int[][] due = {{-1, 0, 0, 0, -2}, {1, 0, 0, 0, -2}, {0, -1, 0, 0, -2}, {0, 3, 0, 0, -2}, {0, 0, 0, -1, -2}, {0, 0, 0, 2, -2},
            {1, 0, 5, 0, -2}, {0, 3, 5, 0, -2}, {0, 0, 5, 2, -2}, {0, 1, -1, 0, -3}, {0, 1, 5, 0, -3}, {0, 0, 5, 0, -3}, {0, 0, -1, 1, -3},
            {0, 1, Integer.MAX_VALUE, 0, -3}, {0, 1, Integer.MIN_VALUE, 0, -3}};
        for (int[] d : due) {
            Checks.due("chance(" + d[0] + ", " + d[1] + ", " + d[2] + ", " + d[3] + ")", x.chance(d[0], d[1], d[2], d[3]), d[4]);
        }
    }

    private static void latest() {
        Doc.promise(37, "The CELL that isn't DRAWN to be found at so that CHANCE in n STROKES (0 to 4) is least, the first.");
        LastMark x = Checks.reads("sheet 1 4;drawn 0;hand;may:cell<3;", 4);
        Checks.due("in none all are alike", x.latest(0, 0), 1);
        for (int n = 1; n <= 4; n++) {
            Checks.due("in " + n, x.latest(0, n), 3);
        }
        Checks.due("all alike", Checks.reads("sheet 3 4;hand;", 2).latest(0, 4), 0);
        LastMark walk = Checks.reads("sheet 1 4;hand;last 0;may:far<3;", 4);
        Checks.due("in one", walk.latest(0, 1), 3);
        Checks.due("in two", walk.latest(0, 2), 3);
        LastMark apart = Checks.reads("sheet 1 3;hand;may:near=0;", 3);
        Checks.due("in one all are alike", apart.latest(0, 1), 0);
        Checks.due("in two the middle", apart.latest(0, 2), 1);
    }

    private static void latestOfNone() {
        Doc.promise(37, "NONE: all are DRAWN;");
        LastMark x = Checks.reads("sheet 1 2;hand;drawn 0;drawn 1;", 4);
        for (int n = 0; n <= 4; n++) {
            Checks.due("latest(0, " + n + ")", x.latest(0, n), -1);
        }
    }

    private static void refusedLatest() {
        Doc.promise(37, "-2; -3.");
        LastMark x = Checks.reads("sheet 1 1;hand;drawn 0;", 3);
        int[][] due = {{-1, 0, -2}, {1, 0, -2}, {1, 5, -2}, {0, -1, -3}, {0, 5, -3}, {0, Integer.MAX_VALUE, -3}, {0, Integer.MIN_VALUE, -3}};
        for (int[] d : due) {
            Checks.due("latest(" + d[0] + ", " + d[1] + ")", x.latest(d[0], d[1]), d[2]);
        }
    }
}
