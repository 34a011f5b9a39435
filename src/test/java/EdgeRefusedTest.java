import java.util.ArrayList;
import java.util.List;

/** "Refused calls": their codes, which of several is told, and that nothing changes by them. */
public final class EdgeRefusedTest {
    private interface Call {
        long on(LastMark x);
    }

    private record Refused(String words, Call call, long code) {
    }

    private static final int MIN = Integer.MIN_VALUE;
    private static final int MAX = Integer.MAX_VALUE;

    public static void main(String[] args) {
        changeNothing();
        changeNothingOnceFound();
        changeNothingWhenFull();
        changeNothingWhenNew();
        whichIsToldFirst();
        aheadOfNone();
        Checks.finish();
    }

    /**
     * Hand 0 may draw cells 0 and 2; cell 1 is drawn and the last one; X is at 2; two calls can be undone, image 0 is made.
     * Tray 0 has deeds, tray 1 no numbers, tray 2 too many of them, tray 3 is missing.
     */
    private static LastMark midway() {
        LastMark x = new LastMark();
        Checks.tell(x, "sheet 1 4;row 0 1 2 3 4;hand habit 3;hand;may:cell<3;odds:kind;");
        x.stroke(0, 1);
        x.hide(2);
        x.image(0);
        Checks.fill(x, 0, 1, 0, 609, 701, 500);
        x.numbers(1, 0, 0);
        x.numbers(2, 2, 13);
        Checks.tape(x, "sheet 1 2;");
        return x;
    }

    private static LastMark found() {
        LastMark x = midway();
        x.stroke(1, 2);
        return x;
    }

    private static LastMark full() {
        LastMark x = midway();
        for (int i = 0; i < 9; i++) {
            x.habit(1, i);
        }
        for (int i = 1; i < 45; i++) {
            x.feed(0x20202020, 0x20202020, 0x20202020, 0x20202020, 0x20202020);
        }
        return x;
    }

    /** Whatever can be seen of one object must be seen of the other; in the end both are taken apart. */
    private static void alike(String behind, LastMark x, LastMark y) {
        for (int what = 0; what < 12; what++) {
            Checks.due("count(" + what + ") behind " + behind, x.count(what), y.count(what));
        }
        Checks.due("fault(0) behind " + behind, x.fault(0), y.fault(0));
        Checks.due("fault(1) behind " + behind, x.fault(1), y.fault(1));
        for (int c = 0; c < 4; c++) {
            for (int what = 0; what < 6; what++) {
                Checks.due("cell(" + c + ", " + what + ") behind " + behind, x.cell(c, what), y.cell(c, what));
            }
        }
        for (int h = 0; h < 2; h++) {
            Checks.due("habit of " + h + " behind " + behind, x.hand(h, 0), y.hand(h, 0));
            Checks.due("stuck(" + h + ") behind " + behind, x.stuck(h), y.stuck(h));
        }
        for (int t = 0; t < 4; t++) {
            Checks.due("judge(" + t + ", 0) behind " + behind, x.judge(t, 0), y.judge(t, 0));
            Checks.due("judge(" + t + ", 2) behind " + behind, x.judge(t, 2), y.judge(t, 2));
            Checks.due("carried(" + t + ") behind " + behind, x.carried(t), y.carried(t));
            Checks.due("sort of tray " + t + " behind " + behind, x.write(t, 0, 65536 + 300), y.write(t, 0, 65536 + 300));
        }
        takenApart(behind, x, y);
    }

    private static void takenApart(String behind, LastMark x, LastMark y) {
        while (y.count(9) > 0) {
            Checks.due("undo(1) behind " + behind, x.undo(1), y.undo(1));
            Checks.due("drawn, undone behind " + behind, x.count(4), y.count(4));
            Checks.due("X, undone behind " + behind, x.count(6), y.count(6));
        }
        for (int i = 0; i < 2; i++) {
            Checks.due("restore(" + i + ") behind " + behind, x.restore(i), y.restore(i));
            Checks.due("drawn, restored behind " + behind, x.count(4), y.count(4));
        }
        Checks.due("sheet(10) behind " + behind, x.sheet(10), y.sheet(10));
        Checks.due("cells behind " + behind, x.count(2), y.count(2));
    }

    private static void changeNothing() {
        Doc.terms("Refused calls answer by a code and change nothing:");
        Doc.terms("-2 there is none such; -3 a number can't be; -4 too many; -5 it can't be now; -6 a TRAY is MISSING; -7 it has no such "
            + "number; -11 to -13 why not (1 to 3);");
        for (Refused r : refusedMidway()) {
            LastMark x = midway();
            Checks.due(r.words, r.call.on(x), r.code);
            alike(r.words, x, midway());
        }
    }

    private static void changeNothingOnceFound() {
        Doc.terms("-11 to -13 why not (1 to 3);");
        for (Refused r : refusedOnceFound()) {
            LastMark x = found();
            Checks.due(r.words, r.call.on(x), r.code);
            alike(r.words, x, found());
        }
    }

    private static void changeNothingWhenFull() {
        Doc.terms("-5 it can't be now;");
        for (Refused r : refusedWhenFull()) {
            LastMark x = full();
            Checks.due(r.words, r.call.on(x), r.code);
            alike(r.words, x, full());
        }
    }

    private static void changeNothingWhenNew() {
        Doc.terms("-2 there is none such;");
        for (Refused r : refusedWhenNew()) {
            LastMark x = new LastMark();
            Checks.due(r.words, r.call.on(x), r.code);
            alike(r.words, x, new LastMark());
        }
    }

    private static void add(List<Refused> all, String words, Call call, long code) {
        all.add(new Refused(words, call, code));
    }

    private static List<Refused> refusedMidway() {
        List<Refused> all = new ArrayList<>();
        refusedDeeds(all);
        refusedRows(all);
        refusedShares(all);
        refusedSeen(all);
        refusedTrays(all);
        return all;
    }

    private static void refusedDeeds(List<Refused> all) {
        add(all, "sheet(-1)", x -> x.sheet(-1), -3);
        add(all, "sheet(21)", x -> x.sheet(21), -3);
        add(all, "cell(4, 0)", x -> x.cell(4, 0), -2);
        add(all, "cell(0, 6)", x -> x.cell(0, 6), -2);
        add(all, "hand(2, 0)", x -> x.hand(2, 0), -2);
        add(all, "hand(0, 2)", x -> x.hand(0, 2), -2);
        add(all, "stroke(2, 0)", x -> x.stroke(2, 0), -11);
        add(all, "stroke(0, 4)", x -> x.stroke(0, 4), -11);
        add(all, "stroke(0, 1)", x -> x.stroke(0, 1), -12);
        add(all, "stroke(0, 3)", x -> x.stroke(0, 3), -13);
        add(all, "rub(4)", x -> x.rub(4), -11);
        add(all, "rub(0)", x -> x.rub(0), -12);
        add(all, "habit(2, 0)", x -> x.habit(2, 0), -11);
        add(all, "habit(0, 10)", x -> x.habit(0, 10), -11);
        add(all, "hide(-1)", x -> x.hide(-1), -11);
        add(all, "hide(1)", x -> x.hide(1), -12);
        add(all, "undo(0)", x -> x.undo(0), -3);
        add(all, "undo(3)", x -> x.undo(3), -3);
        add(all, "judge(4, 0)", x -> x.judge(4, 0), -2);
        add(all, "judge(0, 4)", x -> x.judge(0, 4), -2);
        add(all, "judge(3, 0)", x -> x.judge(3, 0), -6);
        add(all, "perform(4)", x -> x.perform(4), -2);
        add(all, "perform(3)", x -> x.perform(3), -6);
        add(all, "night(1, 0)", x -> x.night(1, 0), -3);
        add(all, "night(1, 41)", x -> x.night(1, 41), -3);
    }

    private static void refusedRows(List<Refused> all) {
        add(all, "longest(2, 0)", x -> x.longest(2, 0), -2);
        add(all, "longest(0, 1)", x -> x.longest(0, 1), -5);
        add(all, "longWay(0, 4, 0)", x -> x.longWay(0, 4, 0), -2);
        add(all, "longWay(0, 1, 0)", x -> x.longWay(0, 1, 0), -5);
        add(all, "longWay(0, 0, -1)", x -> x.longWay(0, 0, -1), -3);
        add(all, "stuck(2)", x -> x.stuck(2), -2);
        add(all, "stuckWay(2, 0)", x -> x.stuckWay(2, 0), -2);
        add(all, "stuckWay(0, -1)", x -> x.stuckWay(0, -1), -3);
        add(all, "soonest(0, 4)", x -> x.soonest(0, 4), -2);
        add(all, "soonest(0, 1)", x -> x.soonest(0, 1), -5);
        add(all, "way(2, 0, 0)", x -> x.way(2, 0, 0), -2);
        add(all, "way(0, 1, 0)", x -> x.way(0, 1, 0), -5);
        add(all, "way(0, 0, -1)", x -> x.way(0, 0, -1), -3);
        add(all, "reach(2)", x -> x.reach(2), -2);
        add(all, "ahead(2, 0)", x -> x.ahead(2, 0), -2);
        add(all, "ahead(0, 1)", x -> x.ahead(0, 1), -5);
        add(all, "rows(2, 0)", x -> x.rows(2, 0), -2);
        add(all, "rows(0, 13)", x -> x.rows(0, 13), -3);
        add(all, "ends(-1)", x -> x.ends(-1), -2);
    }

    private static void refusedShares(List<Refused> all) {
        add(all, "likely(4, 0)", x -> x.likely(4, 0), -2);
        add(all, "likely(0, 2)", x -> x.likely(0, 2), -2);
        add(all, "safest(2, 0, 0)", x -> x.safest(2, 0, 0), -2);
        add(all, "safest(0, 0, 22)", x -> x.safest(0, 0, 22), -2);
        add(all, "safest(0, 13, 0)", x -> x.safest(0, 13, 0), -3);
        add(all, "wins(2, 0, 0)", x -> x.wins(2, 0, 0), -2);
        add(all, "wins(0, 2, 0)", x -> x.wins(0, 2, 0), -2);
        add(all, "wins(0, 0, 2)", x -> x.wins(0, 0, 2), -2);
        add(all, "best(0, 0, -1)", x -> x.best(0, 0, -1), -2);
        add(all, "lasts(-1, 0, 0)", x -> x.lasts(-1, 0, 0), -2);
        add(all, "chance(2, 0, 0, 0)", x -> x.chance(2, 0, 0, 0), -2);
        add(all, "chance(0, 4, 0, 0)", x -> x.chance(0, 4, 0, 0), -2);
        add(all, "chance(0, 0, 0, 2)", x -> x.chance(0, 0, 0, 2), -2);
        add(all, "chance(0, 0, 5, 0)", x -> x.chance(0, 0, 5, 0), -3);
        add(all, "latest(2, 0)", x -> x.latest(2, 0), -2);
        add(all, "latest(0, 5)", x -> x.latest(0, 5), -3);
    }

    private static void refusedSeen(List<Refused> all) {
        add(all, "habits(4, 0)", x -> x.habits(4, 0), -2);
        add(all, "habits(0, 2)", x -> x.habits(0, 2), -2);
        add(all, "habits(3, 0)", x -> x.habits(3, 0), -6);
        add(all, "habits(1, 0)", x -> x.habits(1, 0), -4);
        add(all, "habits(2, 0)", x -> x.habits(2, 0), -4);
        add(all, "habits(0, 0)", x -> x.habits(0, 0), -3);
        add(all, "look(4, 0)", x -> x.look(4, 0), -2);
        add(all, "look(3, 0)", x -> x.look(3, 0), -6);
        add(all, "look(2, 0)", x -> x.look(2, 0), -4);
        add(all, "look(0, 0)", x -> x.look(0, 0), -3);
        add(all, "carried(4)", x -> x.carried(4), -2);
        add(all, "carried(3)", x -> x.carried(3), -6);
        add(all, "carried(1)", x -> x.carried(1), -4);
        add(all, "carried(0)", x -> x.carried(0), -3);
        add(all, "changes(4, 0)", x -> x.changes(4, 0), -2);
        add(all, "changes(0, 9)", x -> x.changes(0, 9), -2);
        add(all, "changes(3, 0)", x -> x.changes(3, 0), -6);
        add(all, "changes(1, 0)", x -> x.changes(1, 0), -4);
        add(all, "changes(0, 10)", x -> x.changes(0, 10), -3);
        add(all, "covers(4, 0, 0)", x -> x.covers(4, 0, 0), -2);
        add(all, "covers(0, 4, 0)", x -> x.covers(0, 4, 0), -2);
        add(all, "covers(0, 0, 2)", x -> x.covers(0, 0, 2), -2);
        add(all, "covers(3, 0, 0)", x -> x.covers(3, 0, 0), -6);
        add(all, "covers(1, 0, 0)", x -> x.covers(1, 0, 0), -4);
        add(all, "covers(2, 0, 0)", x -> x.covers(2, 0, 0), -4);
        add(all, "covers(0, 0, 0)", x -> x.covers(0, 0, 0), -3);
    }

    private static void refusedTrays(List<Refused> all) {
        add(all, "numbers(4, 0, 0)", x -> x.numbers(4, 0, 0), -2);
        add(all, "numbers(0, 4, 0)", x -> x.numbers(0, 4, 0), -2);
        add(all, "numbers(0, 0, 41)", x -> x.numbers(0, 0, 41), -3);
        add(all, "numbers(3, 0, -1)", x -> x.numbers(3, 0, -1), -3);
        add(all, "write(4, 0, 7)", x -> x.write(4, 0, 7), -2);
        add(all, "write(3, 0, 7)", x -> x.write(3, 0, 7), -6);
        add(all, "write(0, 4, 7)", x -> x.write(0, 4, 7), -7);
        add(all, "write(0, -1, 7)", x -> x.write(0, -1, 7), -7);
        add(all, "write(1, 0, 7)", x -> x.write(1, 0, 7), -7);
        add(all, "lists(4, 0)", x -> x.lists(4, 0), -2);
        add(all, "lists(0, 2)", x -> x.lists(0, 2), -2);
        add(all, "lists(3, 0)", x -> x.lists(3, 0), -6);
        add(all, "image(2)", x -> x.image(2), -2);
        add(all, "image(-1)", x -> x.image(-1), -2);
        add(all, "restore(2)", x -> x.restore(2), -2);
        add(all, "restore(1)", x -> x.restore(1), -5);
    }

    private static List<Refused> refusedOnceFound() {
        List<Refused> all = new ArrayList<>();
        add(all, "found: stroke(0, 0)", x -> x.stroke(0, 0), -12);
        add(all, "found: stroke(0, 3)", x -> x.stroke(0, 3), -12);
        add(all, "found: stroke(0, 4)", x -> x.stroke(0, 4), -11);
        add(all, "found: rub(1)", x -> x.rub(1), -12);
        add(all, "found: rub(2)", x -> x.rub(2), -12);
        add(all, "found: rub(4)", x -> x.rub(4), -11);
        add(all, "found: hide(0)", x -> x.hide(0), -12);
        add(all, "found: hide(4)", x -> x.hide(4), -11);
        add(all, "found: habit(0, 10)", x -> x.habit(0, 10), -11);
        return all;
    }

    private static List<Refused> refusedWhenFull() {
        List<Refused> all = new ArrayList<>();
        add(all, "full: feed", x -> x.feed(-1, -1, -1, -1, -1), -5);
        add(all, "full: sheet(901)", x -> x.sheet(901), -3);
        add(all, "full: undo(11)", x -> x.undo(11), -3);
        add(all, "full: stroke(0, 1)", x -> x.stroke(0, 1), -12);
        add(all, "full: hide(1)", x -> x.hide(1), -12);
        add(all, "full: rub(0)", x -> x.rub(0), -12);
        add(all, "full: habit(0, -1)", x -> x.habit(0, -1), -11);
        add(all, "full: night(1, 41)", x -> x.night(1, 41), -3);
        return all;
    }

    private static List<Refused> refusedWhenNew() {
        List<Refused> all = new ArrayList<>();
        add(all, "new: sheet(1)", x -> x.sheet(1), -3);
        add(all, "new: stroke(0, 0)", x -> x.stroke(0, 0), -11);
        add(all, "new: rub(0)", x -> x.rub(0), -12);
        add(all, "new: habit(0, 0)", x -> x.habit(0, 0), -11);
        add(all, "new: undo(1)", x -> x.undo(1), -3);
        add(all, "new: restore(0)", x -> x.restore(0), -5);
        add(all, "no hands: hand(0, 0)", x -> x.hand(0, 0), -2);
        add(all, "no hands: longest(0, 0)", x -> x.longest(0, 0), -2);
        add(all, "no hands: longWay(0, 0, 0)", x -> x.longWay(0, 0, 0), -2);
        add(all, "no hands: stuck(0)", x -> x.stuck(0), -2);
        add(all, "no hands: stuckWay(0, 0)", x -> x.stuckWay(0, 0), -2);
        add(all, "no hands: soonest(0, 0)", x -> x.soonest(0, 0), -2);
        add(all, "no hands: way(0, 0, 0)", x -> x.way(0, 0, 0), -2);
        add(all, "no hands: reach(0)", x -> x.reach(0), -2);
        add(all, "no hands: ahead(0, 0)", x -> x.ahead(0, 0), -2);
        add(all, "no hands: rows(0, 0)", x -> x.rows(0, 0), -2);
        add(all, "no hands: ends(0)", x -> x.ends(0), -2);
        add(all, "no hands: safest(0, 0, 0)", x -> x.safest(0, 0, 0), -2);
        add(all, "no hands: wins(0, 0, 0)", x -> x.wins(0, 0, 0), -2);
        add(all, "no hands: best(0, 0, 0)", x -> x.best(0, 0, 0), -2);
        add(all, "no hands: lasts(0, 0, 0)", x -> x.lasts(0, 0, 0), -2);
        add(all, "no hands: habits(0, 0)", x -> x.habits(0, 0), -2);
        add(all, "no hands: look(0, 0)", x -> x.look(0, 0), -2);
        add(all, "no hands: chance(0, 0, 0, 0)", x -> x.chance(0, 0, 0, 0), -2);
        add(all, "no hands: latest(0, 0)", x -> x.latest(0, 0), -2);
        add(all, "no hands: lists(0, 0)", x -> x.lists(0, 0), -2);
        add(all, "new: write(0, 0, 0)", x -> x.write(0, 0, 0), -6);
        return all;
    }

    /** Two or three things are wrong with each of these calls. */
    private static void whichIsToldFirst() {
        Doc.terms("-30 less the FAULT: a text. (Of several that which the call tells first;");
        List<Refused> all = new ArrayList<>();
        add(all, "stroke(2, 1)", x -> x.stroke(2, 1), -11);
        add(all, "stroke(2, 3)", x -> x.stroke(2, 3), -11);
        add(all, "longWay(2, 1, -1)", x -> x.longWay(2, 1, -1), -2);
        add(all, "longWay(0, 1, -1)", x -> x.longWay(0, 1, -1), -5);
        add(all, "stuckWay(2, -1)", x -> x.stuckWay(2, -1), -2);
        add(all, "way(0, 4, -1)", x -> x.way(0, 4, -1), -2);
        add(all, "way(0, 1, MIN)", x -> x.way(0, 1, MIN), -5);
        add(all, "soonest(2, 1)", x -> x.soonest(2, 1), -2);
        add(all, "ahead(2, 1)", x -> x.ahead(2, 1), -2);
        add(all, "rows(2, 13)", x -> x.rows(2, 13), -2);
        add(all, "safest(2, 13, 0)", x -> x.safest(2, 13, 0), -2);
        add(all, "safest(0, 13, 9)", x -> x.safest(0, 13, 9), -2);
        add(all, "judge(3, 4)", x -> x.judge(3, 4), -2);
        add(all, "habits(3, 2)", x -> x.habits(3, 2), -2);
        add(all, "habits(1, 2)", x -> x.habits(1, 2), -2);
        add(all, "look(3, 2)", x -> x.look(3, 2), -2);
        add(all, "changes(3, 22)", x -> x.changes(3, 22), -2);
        add(all, "covers(3, 4, 0)", x -> x.covers(3, 4, 0), -2);
        add(all, "covers(1, 0, 2)", x -> x.covers(1, 0, 2), -2);
        add(all, "chance(0, 0, 5, 2)", x -> x.chance(0, 0, 5, 2), -2);
        add(all, "chance(2, 1, 5, 0)", x -> x.chance(2, 1, 5, 0), -2);
        add(all, "latest(2, 5)", x -> x.latest(2, 5), -2);
        add(all, "numbers(4, 0, 41)", x -> x.numbers(4, 0, 41), -2);
        add(all, "numbers(0, 4, 41)", x -> x.numbers(0, 4, 41), -2);
        add(all, "write(4, MAX, 7)", x -> x.write(4, MAX, 7), -2);
        add(all, "write(3, MAX, 7)", x -> x.write(3, MAX, 7), -6);
        add(all, "lists(3, 2)", x -> x.lists(3, 2), -2);
        for (Refused r : all) {
            LastMark x = midway();
            Checks.due(r.words, r.call.on(x), r.code);
            alike(r.words, x, midway());
        }
    }

    private static void aheadOfNone() {
        Doc.terms("all these ahead of NONE.)");
        LastMark x = Checks.reads("sheet 1 2;hand;drawn 1;may:1=2;odds:0;", 5);
        Checks.due("likely", x.likely(0, 0), -1);
        Checks.due("likely: what", x.likely(0, 2), -2);
        Checks.due("safest", x.safest(0, 1, 10), -1);
        Checks.due("safest: what", x.safest(0, 1, 9), -2);
        Checks.due("safest: n", x.safest(0, 13, 10), -3);
        Checks.due("soonest", x.soonest(0, 0), -1);
        Checks.due("soonest: drawn", x.soonest(0, 1), -5);
        Checks.due("way", x.way(0, 0, 0), -1);
        Checks.due("way: i", x.way(0, 0, -1), -3);
        Checks.due("longWay", x.longWay(0, 0, 0), -1);
        Checks.due("longWay: i", x.longWay(0, 0, -1), -3);
        Checks.due("stuckWay", x.stuckWay(0, 0), -1);
        Checks.due("stuckWay: i", x.stuckWay(0, -1), -3);
        Checks.due("best", x.best(0, 0, 0), -1);
        Checks.due("best: other", x.best(0, 0, 2), -2);
        Checks.fill(x, 0, 0, 0);
        Checks.due("look", x.look(0, 0), -1);
        Checks.due("changes", x.changes(0, 10), -1);
        Checks.due("changes: what", x.changes(0, 9), -2);
        Checks.due("covers", x.covers(0, 0, 0), -1);
        Checks.due("covers: what", x.covers(0, 0, 2), -2);
        Checks.fill(x, 0, 0, 0, 5);
        Checks.due("look: no cell", x.look(0, 0), -3);
        Checks.due("changes: no cell", x.changes(0, 10), -3);
        Checks.due("covers: no set", x.covers(0, 0, 0), -3);
        LastMark full = Checks.reads("sheet 1 1;hand;drawn 0;", 3);
        Checks.due("latest", full.latest(0, 0), -1);
        Checks.due("latest: n", full.latest(0, 5), -3);
    }
}
