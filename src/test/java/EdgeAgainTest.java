import java.util.ArrayList;
import java.util.List;
import java.util.Random;

/** What an object was asked or told ahead doesn't matter: it answers as a new one to which the same was done. */
public final class EdgeAgainTest {
    private static final int RUNS = 120;
    private static final int CALLS = 470;
    private static final String[] SHEETS = {"sheet 1 1;hand;", "sheet 1 4;hand;hand habit 2;may:far<2;",
        "sheet 2 2;hand;hand;may:last=9 or far=1;odds:cell;", "sheet 3 4;hand;hand;may:near<2;odds:near+1;",
        "sheet 3 4;hand;hand;may:far<3 and left>habit;", "sheet 3 3;hand;hand;hand;may:near=habit or near+left>7+hand;odds:kind;",
        "sheet 1 12;hand;hand;may:cell+left=12 or far=habit;", "sheet 2 6;hand;hand;last 3;may:last=kind or far=1;row 0 1 2 1 2 1 2;",
        "sheet 3 4;hand;drawn 0;drawn 5;", "sheet 2 5;hand;hand;may:far<2 and last+habit>0;", "sheet 2 3;hand;hand;may:1=2;odds:0;", "sheet 1 2;drawn 0;drawn 1;hand;"};

    /** What was told or done since the latest sheet, that sheet first. */
    private interface Deed {
        void on(LastMark x);
    }

    private interface Question {
        long of(LastMark x);
    }

    private final Random random;
    private final List<Deed> past = new ArrayList<>();
    private final LastMark used = new LastMark();
    private int calls = 0;

    private EdgeAgainTest(int run) {
        random = new Random(77000 + run);
    }

    public static void main(String[] args) {
        behindEachDeed();
        behindEachQuestion();
        Doc.terms("STROKES from now on, one behind the other, nothing else being done");
        for (int run = 0; run < RUNS; run++) {
            new EdgeAgainTest(run).go();
        }
        Checks.finish();
    }

    private static void behindEachDeed() {
        Doc.terms("nothing else being done, X aside.");
        LastMark x = Checks.reads("sheet 1 4;hand;may:far<2 and cell<habit+4;", 3);
        Checks.due("rows(0, 2)", x.rows(0, 2), 6);
        x.stroke(0, 1);
        Checks.due("behind a stroke", x.rows(0, 2), 1);
        x.rub(1);
        Checks.due("behind rubbing", x.rows(0, 2), 6);
        x.habit(0, 9);
        Checks.due("behind a habit", x.rows(0, 2), 6);
        x.hide(3);
        Checks.due("behind hiding", x.rows(0, 2), 6);
        Checks.fill(x, 0, 1, 3);
        x.perform(0);
        Checks.due("behind perform", x.rows(0, 2), 1);
        x.undo(1);
        Checks.due("behind undo", x.rows(0, 2), 6);
        x.image(0);
        Checks.tell(x, "sheet 1 2;hand;");
        Checks.due("behind another sheet", x.rows(0, 2), 2);
        x.restore(0);
        Checks.due("behind restore", x.rows(0, 2), 6);
        Checks.tell(x, "sheet 3 4;hand;");
        Checks.due("behind a sheet of twelve", x.rows(0, 2), 132);
        Checks.tell(x, "sheet 2 5;hand;may:far<2;");
        Checks.due("behind one of ten that asks for the last one", x.rows(0, 2), 26);
    }

    private static void behindEachQuestion() {
        Doc.promise(23, "How many ROWS of just n STROKES");
        LastMark x = Checks.reads("sheet 1 3;hand;may:near=0;", 3);
        Checks.due("wins", x.wins(0, 0, 0), 1);
        Checks.due("rows", x.rows(0, 2), 2);
        Checks.due("best behind rows", x.best(0, 0, 0), 1);
        Checks.due("longest", x.longest(0, 0), 1);
        Checks.due("safest behind longest", x.safest(0, 2, 1), 3);
        Checks.due("rows behind safest", x.rows(0, 1), 3);
        Checks.due("ends behind safest", x.ends(0), 3);
        Checks.due("stuck behind ends", x.stuck(0), 1);
        Checks.due("stuckWay behind stuck", x.stuckWay(0, 0), 1);
        Checks.due("longWay behind stuckWay", x.longWay(0, 0, 0), 1);
        Checks.due("way behind longWay", x.way(0, 2, 0), 2);
    }

    private void go() {
        tell();
        while (calls < CALLS) {
            int sort = random.nextInt(20);
            if (sort == 0) {
                tell();
            } else if (sort < 7) {
                doSome();
            } else {
                ask();
            }
        }
    }

    private void tell() {
        String text = SHEETS[random.nextInt(SHEETS.length)];
        past.clear();
        calls += text.length() / 20 + 1;
        happen(x -> Checks.tell(x, text));
    }

    private void happen(Deed deed) {
        past.add(deed);
        calls++;
        deed.on(used);
    }

    private void doSome() {
        int h = random.nextInt(Math.max(1, used.count(3)));
        int c = random.nextInt(used.count(2));
        int n = random.nextInt(10);
        calls += 2;
        switch (random.nextInt(6)) {
            case 0: case 1: happen(x -> x.stroke(h, c)); break;
            case 2: happen(x -> x.rub(c)); break;
            case 3: happen(x -> x.habit(h, n)); break;
            case 4: happen(x -> x.hide(c)); break;
            default: happen(x -> x.undo(1)); break;
        }
    }

    private void ask() {
        int h = random.nextInt(Math.max(1, used.count(3)));
        int g = random.nextInt(Math.max(1, used.count(3)));
        int c = random.nextInt(used.count(2));
        int i = random.nextInt(4);
        calls += 4;
        int which = random.nextInt(18);
        LastMark fresh = new LastMark();
        for (Deed deed : past) {
            deed.on(fresh);
        }
        Question q = question(which, h, g, c, i);
        Checks.due("question " + which + " of " + h + ", " + g + ", " + c + ", " + i, q.of(used), q.of(fresh));
    }

    private static Question question(int which, int h, int g, int c, int i) {
        switch (which) {
            case 0: return x -> x.longest(h, c);
            case 1: return x -> x.longWay(h, c, i);
            case 2: return x -> x.stuck(h);
            case 3: return x -> x.stuckWay(h, i);
            case 4: return x -> x.soonest(h, c);
            case 5: return x -> x.way(h, c, i);
            case 6: return x -> x.reach(h);
            case 7: return x -> x.ahead(h, c);
            case 8: return x -> x.rows(h, i * 2);
            case 9: return x -> x.ends(h);
            case 10: return x -> x.safest(h, i, i % 2);
            case 11: return x -> x.safest(h, i, 10 + i);
            case 12: return x -> x.wins(h, g, i % 2);
            case 13: return x -> x.best(h, g, i % 2);
            case 14: return x -> x.lasts(h, g, i % 2);
            case 15: return x -> x.chance(h, c, i, 0);
            case 16: return x -> x.chance(h, c, i, 1);
            default: return x -> x.latest(h, i);
        }
    }
}
