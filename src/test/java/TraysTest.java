/** Promises 38 to 43: numbers, write, lists, image, restore, count. */
public final class TraysTest {
    public static void main(String[] args) {
        laying();
        writing();
        listing();
        images();
        counting();
        Checks.due("NONE", LastMark.NONE, -1);
        Checks.finish();
    }

    private static void laying() {
        LastMark x = new LastMark();
        Checks.due("numbers(4, 0, 0)", x.numbers(4, 0, 0), -2);
        Checks.due("numbers(-1, 0, 0)", x.numbers(-1, 0, 0), -2);
        Checks.due("numbers(0, 4, 0)", x.numbers(0, 4, 0), -2);
        Checks.due("numbers(0, -1, 0)", x.numbers(0, -1, 0), -2);
        Checks.due("-2 ahead of -3", x.numbers(0, 4, 41), -2);
        Checks.due("numbers(0, 0, 41)", x.numbers(0, 0, 41), -3);
        Checks.due("numbers(0, 0, -1)", x.numbers(0, 0, -1), -3);
        Checks.due("still missing", x.write(0, 0, 1), -6);
        Checks.due("numbers(0, 0, 0)", x.numbers(0, 0, 0), 0);
        Checks.due("no numbers, but there", x.judge(0, 0), -1);
        Checks.due("no number 0", x.write(0, 0, 1), -7);
        Checks.due("numbers(0, 3, 40)", x.numbers(0, 3, 40), 0);
        Checks.due("write(0, 39)", x.write(0, 39, 500), 500);
        Checks.due("numbers(0, 3, 41)", x.numbers(0, 3, 41), -3);
        Checks.due("the tray stays", x.write(0, 38, 1L << 40), 1L << 40);
        Checks.due("its numbers are 0", x.judge(0, 0), 0);
        Checks.due("other trays are missing", x.judge(1, 0), -6);
        LastMark y = Checks.told("sheet 1 3;hand;");
        Checks.fill(y, 0, 2, 500, 500, 500);
        y.numbers(0, 2, 3);
        Checks.due("in place of another one: all 0", y.judge(0, 0), 1);
        Checks.due("all 0", y.judge(0, 2), 1);
    }

    private static void writing() {
        LastMark x = new LastMark();
        Checks.due("write(4, 0, 1)", x.write(4, 0, 1), -2);
        Checks.due("write(-1, 0, 1)", x.write(-1, 0, 1), -2);
        Checks.due("write(3, 99, 1)", x.write(3, 99, 1), -6);
        long[][] due = {{-1, 127, -128, 0, -2}, {-1, 127, 128, 256, -2}, {-1, 127, 128, 256, -2}, {-1, 127, 128, 256, -2}};
        for (int sort = 0; sort < 4; sort++) {
            x.numbers(3, sort, 5);
            long[] v = {-1, 127, 128, 256, -2};
            for (int i = 0; i < v.length; i++) {
                Checks.due("sort " + sort + ": " + v[i], x.write(3, i, v[i]), due[sort][i]);
            }
            Checks.due("write(3, 5, 1)", x.write(3, 5, 1), -7);
            Checks.due("write(3, -1, 1)", x.write(3, -1, 1), -7);
        }
        long big = 0x123456789abcdef0L;
        long[] cut = {(byte) 0xf0, (short) 0xdef0, 0x9abcdef0, big};
        for (int sort = 0; sort < 4; sort++) {
            x.numbers(2, sort, 1);
            Checks.due("cut to sort " + sort, x.write(2, 0, big), cut[sort]);
        }
    }

    private static void listing() {
        LastMark x = Checks.told("sheet 1 4;hand;hand;may:far<2;");
        Checks.due("lists(4, 0)", x.lists(4, 0), -2);
        Checks.due("lists(-1, 0)", x.lists(-1, 0), -2);
        Checks.due("lists(0, 2)", x.lists(0, 2), -2);
        Checks.due("lists(0, 0)", x.lists(0, 0), -6);
        Checks.fill(x, 0, 0, 9, 9, 9);
        Checks.due("lists(0, 0)", x.lists(0, 0), 2);
        Checks.due("habits of 1, 0, 9", x.habits(0, 0), -3);
        Checks.due("1 and 0 may be, 9 may not", x.judge(0, 0), 2);
        Checks.due("drawn", x.judge(0, 2), 3);
        Checks.fill(x, 1, 3, 9);
        Checks.due("as far as it has places", x.lists(1, 1), 1);
        Checks.due("drawn", x.judge(1, 2), 2);
        Checks.fill(x, 1, 3);
        Checks.due("no places", x.lists(1, 0), 0);
        LastMark full = Checks.told("sheet 1 1;drawn 0;hand;");
        Checks.fill(full, 0, 0, 7);
        Checks.due("no strokes", full.lists(0, 0), 0);
    }

    private static void images() {
        LastMark x = Checks.told("sheet 1 3;hand habit 2;last 0;odds:5;");
        Checks.due("image(2)", x.image(2), -2);
        Checks.due("image(-1)", x.image(-1), -2);
        Checks.due("restore(2)", x.restore(2), -2);
        Checks.due("restore(-1)", x.restore(-1), -2);
        Checks.due("restore(0)", x.restore(0), -5);
        x.hide(2);
        x.habit(0, 7);
        Checks.due("image(1)", x.image(1), 0);
        Checks.due("undo is as it was", x.count(9), 2);
        Checks.due("restore(0)", x.restore(0), -5);
        x.stroke(0, 1);
        x.habit(0, 1);
        Checks.fill(x, 2, 1, 400);
        Checks.tell(x, "sheet 2 2;hand;hand;drawn 3;");
        x.stroke(1, 2);
        Checks.due("image(0)", x.image(0), 0);
        Checks.tape(x, "sheet");
        Checks.due("restore(1)", x.restore(1), 0);
        int[] counts = {1, 3, 3, 1, 1, 0, 2, 0, 10, 0, 20, 4};
        for (int what = 0; what < counts.length; what++) {
            Checks.due("restored count(" + what + ")", x.count(what), counts[what]);
        }
        Checks.due("its habit", x.hand(0, 0), 7);
        Checks.due("nothing can be undone", x.undo(1), -3);
        Checks.due("trays stay", x.judge(2, 1), 1);
        x.stroke(0, 2);
        Checks.due("found", x.count(7), 1);
        Checks.due("again", x.restore(1), 0);
        Checks.due("not found", x.count(7), 0);
        Checks.due("restore(0)", x.restore(0), 0);
        Checks.due("rows", x.count(0), 2);
        Checks.due("drawn", x.count(4), 12);
        Checks.due("last", x.count(5), 2);
        Checks.due("X", x.count(6), -1);
        Checks.due("image in place of another", x.image(1), 0);
        x.rub(3);
        Checks.due("restore(1)", x.restore(1), 0);
        Checks.due("drawn", x.count(4), 12);
    }

    private static void counting() {
        LastMark x = Checks.told("sheet 2 3;hand;hand;drawn 1;last 5;odds:cell;");
        x.hide(4);
        x.feed(0, 0, 0, 0, 0);
        int[] counts = {2, 3, 6, 2, 34, 5, 4, 0, 9, 1, 20, 6};
        for (int what = 0; what < counts.length; what++) {
            Checks.due("count(" + what + ")", x.count(what), counts[what]);
        }
        x.stroke(1, 4);
        Checks.due("count(7)", x.count(7), 1);
        Checks.due("count(5)", x.count(5), 4);
        Checks.due("count(12)", x.count(12), -1);
        Checks.due("count(-1)", x.count(-1), -1);
        Checks.due("count(MIN)", x.count(Integer.MIN_VALUE), -1);
    }
}
