import java.math.BigInteger;
import java.util.ArrayDeque;
import java.util.ArrayList;
import java.util.Arrays;
import java.util.Deque;
import java.util.List;
import java.util.TreeSet;
import java.util.regex.Matcher;
import java.util.regex.Pattern;

/**
 * The document once more, told as slowly and plainly as can be: every row is written out and looked at.
 * It shares nothing with the class, so that both can be held against one another.
 */
final class Model {
    interface Expr {
        long of(long[] facts);
    }

    static final class Fault extends RuntimeException {
        final int kind;
        final int place;

        Fault(int kind, int place) {
            super(null, null, false, false);
            this.kind = kind;
            this.place = place;
        }
    }

    record Token(String text, int place, int kind) {
    }

    record Paper(int rows, int cols, int[] kinds, int hands, int lines, Expr may, Expr odds) {
    }

    record State(TreeSet<Integer> drawn, int last, List<Integer> habits, int x) {
        boolean found() {
            return x >= 0 && drawn.contains(x);
        }
    }

    /** A row, and whether nothing may be drawn behind it. */
    record Row(int[] cells, boolean stuck) {
    }

    Paper paper = new Paper(1, 1, new int[] {0}, 0, 0, null, null);
    State state = new State(new TreeSet<>(), -1, List.of(0, 0, 0, 0), -1);
    private final Deque<State> undone = new ArrayDeque<>();
    private final StringBuilder tape = new StringBuilder();
    private int faultKind = 0;
    private int faultPlace = -1;
    private final long[][] trays = new long[4][];
    private final int[] sorts = new int[4];
    private final Paper[] imagePapers = new Paper[2];
    private final State[] imageStates = new State[2];

    // ---- the language

    private List<Token> tokens;
    private int at;
    private boolean inMay;

    private static List<Token> cut(String text) {
        List<Token> all = new ArrayList<>();
        Matcher m = Pattern.compile("[ \n]+|([a-z]+)|([0-9]+)|([;:+\\-*()\\[\\]=<>])|([\\s\\S])").matcher(text);
        while (m.find()) {
            if (m.group(1) != null) {
                all.add(new Token(m.group(), m.start(), 0));
            } else if (m.group(2) != null) {
                all.add(new Token(m.group(), m.start(), m.group().length() > 3 ? 2 : 1));
            } else if (m.group(3) != null) {
                all.add(new Token(m.group(), m.start(), 0));
            } else if (m.group(4) != null) {
                all.add(new Token("", m.start(), 2));
            }
        }
        all.add(new Token("", text.length(), 3));
        return all;
    }

    private Token now() {
        return tokens.get(at);
    }

    private Fault refusal(int kind) {
        return new Fault(now().kind == 2 ? 1 : kind, now().place);
    }

    private boolean is(String word) {
        return now().kind == 0 && now().text.equals(word);
    }

    private void need(String word) {
        if (!is(word)) {
            throw refusal(2);
        }
        at++;
    }

    private int needNumber(int low, int high) {
        if (now().kind != 1) {
            throw refusal(2);
        }
        int value = Integer.parseInt(now().text);
        if (value < low || value > high) {
            throw refusal(3);
        }
        at++;
        return value;
    }

    private void parse(String text) {
        tokens = cut(text);
        at = 0;
        need("sheet");
        int rows = needNumber(1, 12);
        int cols = needNumber(1, 12 / rows);
        need(";");
        int lines = 1;
        int[] kinds = new int[rows * cols];
        List<Integer> habits = new ArrayList<>();
        TreeSet<Integer> drawn = new TreeSet<>();
        int last = -1;
        Expr may = null;
        Expr odds = null;
        while (now().kind != 3) {
            if (is("row")) {
                at++;
                int r = needNumber(0, rows - 1);
                for (int c = 0; c < cols; c++) {
                    kinds[r * cols + c] = needNumber(0, 8);
                }
            } else if (is("hand")) {
                if (habits.size() == 4) {
                    throw refusal(4);
                }
                at++;
                int n = 0;
                while (is("habit")) {
                    at++;
                    n = needNumber(0, 9);
                }
                habits.add(n);
            } else if (is("drawn")) {
                at++;
                drawn.add(needNumber(0, rows * cols - 1));
            } else if (is("last")) {
                at++;
                last = needNumber(0, rows * cols - 1);
                drawn.add(last);
            } else if (is("may")) {
                at++;
                need(":");
                inMay = true;
                may = or(0);
            } else if (is("odds")) {
                at++;
                need(":");
                inMay = false;
                odds = sum(0);
            } else {
                throw refusal(2);
            }
            need(";");
            lines++;
        }
        int hands = habits.size();
        while (habits.size() < 4) {
            habits.add(0);
        }
        paper = new Paper(rows, cols, kinds, hands, lines, may, odds);
        state = new State(drawn, last, habits, -1);
        undone.clear();
    }

    private void deeper(int depth) {
        if (depth == 6) {
            throw refusal(4);
        }
        at++;
    }

    private Expr or(int depth) {
        Expr left = and(depth);
        while (is("or")) {
            at++;
            Expr a = left;
            Expr b = and(depth);
            left = f -> a.of(f) + b.of(f) > 0 ? 1 : 0;
        }
        return left;
    }

    private Expr and(int depth) {
        Expr left = unit(depth);
        while (is("and")) {
            at++;
            Expr a = left;
            Expr b = unit(depth);
            left = f -> a.of(f) + b.of(f) == 2 ? 1 : 0;
        }
        return left;
    }

    private Expr unit(int depth) {
        if (is("not")) {
            deeper(depth);
            Expr a = unit(depth + 1);
            return f -> a.of(f) == 0 ? 1 : 0;
        }
        if (is("[")) {
            deeper(depth);
            Expr a = or(depth + 1);
            need("]");
            return a;
        }
        Expr a = sum(depth);
        if (!is("=") && !is("<") && !is(">")) {
            throw refusal(2);
        }
        String sign = now().text;
        at++;
        Expr b = sum(depth);
        return f -> {
            int order = Long.compare(a.of(f), b.of(f));
            return order == (sign.equals("=") ? 0 : sign.equals("<") ? -1 : 1) ? 1 : 0;
        };
    }

    private static long kept(long v) {
        return v > 1_000_000 ? 1_000_000 : v < -1_000_000 ? -1_000_000 : v;
    }

    private Expr sum(int depth) {
        Expr left = term(depth);
        while (is("+") || is("-")) {
            boolean plus = is("+");
            at++;
            Expr a = left;
            Expr b = term(depth);
            left = plus ? f -> kept(a.of(f) + b.of(f)) : f -> kept(a.of(f) - b.of(f));
        }
        return left;
    }

    private Expr term(int depth) {
        Expr left = atom(depth);
        while (is("*")) {
            at++;
            Expr a = left;
            Expr b = atom(depth);
            left = f -> kept(a.of(f) * b.of(f));
        }
        return left;
    }

    private Expr atom(int depth) {
        if (now().kind == 1) {
            int value = Integer.parseInt(now().text);
            at++;
            return f -> value;
        }
        if (is("(")) {
            deeper(depth);
            Expr a = sum(depth + 1);
            need(")");
            return a;
        }
        List<String> words = List.of("cell", "kind", "near", "left", "hand", "habit", "last", "far");
        int fact = now().kind == 0 ? words.indexOf(now().text) : -1;
        if (fact < 0 || fact > 3 && !inMay) {
            throw refusal(2);
        }
        at++;
        return f -> f[fact];
    }

    // ---- the laws

    private int cells() {
        return paper.rows * paper.cols;
    }

    private boolean isHand(int h) {
        return 0 <= h && h < paper.hands;
    }

    private boolean isCell(int c) {
        return 0 <= c && c < cells();
    }

    private int walk(int a, int b) {
        int[] far = new int[cells()];
        Arrays.fill(far, -1);
        far[a] = 0;
        Deque<Integer> todo = new ArrayDeque<>(List.of(a));
        while (!todo.isEmpty()) {
            int c = todo.poll();
            for (int d = 0; d < cells(); d++) {
                if (beside(c, d) && far[d] < 0) {
                    far[d] = far[c] + 1;
                    todo.add(d);
                }
            }
        }
        return far[b];
    }

    private boolean beside(int a, int b) {
        int down = Math.abs(a / paper.cols - b / paper.cols);
        int along = Math.abs(a % paper.cols - b % paper.cols);
        return down + along == 1;
    }

    private int near(int c, State s) {
        int n = 0;
        for (int d : s.drawn) {
            n += beside(c, d) ? 1 : 0;
        }
        return n;
    }

    private long[] facts(int c, State s, int h, int habit) {
        return new long[] {c, paper.kinds[c], near(c, s), cells() - s.drawn.size(), h, habit,
            s.last < 0 ? 9 : paper.kinds[s.last], s.last < 0 ? 0 : walk(c, s.last)};
    }

    private boolean may(State s, int h, int habit, int c) {
        return !s.drawn.contains(c) && (paper.may == null || paper.may.of(facts(c, s, h, habit)) != 0);
    }

    private int odds(State s, int c) {
        if (s.drawn.contains(c)) {
            return 0;
        }
        return paper.odds == null ? 1 : (int) Math.max(0, Math.min(999, paper.odds.of(facts(c, s, 0, 0))));
    }

    private int allOdds() {
        int sum = 0;
        for (int c = 0; c < cells(); c++) {
            sum += odds(state, c);
        }
        return sum;
    }

    private static State drawing(State s, int c) {
        TreeSet<Integer> drawn = new TreeSet<>(s.drawn);
        drawn.add(c);
        return new State(drawn, c, s.habits, s.x);
    }

    private static int bits(Iterable<Integer> cells) {
        int bits = 0;
        for (int c : cells) {
            bits |= 1 << c;
        }
        return bits;
    }

    // ---- the sheet

    int feed(int a, int b, int c, int d, int e) {
        if (tape.length() > 880) {
            return -5;
        }
        for (int v : new int[] {a, b, c, d, e}) {
            tape.append((char) (v >>> 24)).append((char) (v >>> 16 & 255));
            tape.append((char) (v >>> 8 & 255)).append((char) (v & 255));
        }
        return tape.length();
    }

    int sheet(int n) {
        if (n < 0 || n > tape.length()) {
            return -3;
        }
        String text = tape.substring(0, n);
        tape.setLength(0);
        try {
            parse(text);
        } catch (Fault fault) {
            faultKind = fault.kind;
            faultPlace = fault.place;
            return -30 - fault.kind;
        }
        faultKind = 0;
        faultPlace = -1;
        return paper.lines;
    }

    int fault(int what) {
        return what == 0 ? faultKind : what == 1 ? faultPlace : -1;
    }

    int cell(int c, int what) {
        if (!isCell(c) || what < 0 || what > 5) {
            return -2;
        }
        int hands = 0;
        for (int h = 0; h < paper.hands; h++) {
            if (!state.found() && may(state, h, state.habits.get(h), c)) {
                hands |= 1 << h;
            }
        }
        int[] answers = {paper.kinds[c], state.drawn.contains(c) ? 1 : 0, near(c, state), odds(state, c), hands,
            state.last < 0 ? 0 : walk(c, state.last)};
        return answers[what];
    }

    int hand(int h, int what) {
        if (!isHand(h) || what < 0 || what > 1) {
            return -2;
        }
        if (what == 0) {
            return state.habits.get(h);
        }
        int cells = 0;
        for (int c = 0; c < cells(); c++) {
            if (!state.found() && may(state, h, state.habits.get(h), c)) {
                cells |= 1 << c;
            }
        }
        return cells;
    }

    // ---- deeds

    private int why;

    /** The state behind a deed; why is 0, or the state is as it was. */
    private State behind(State s, long v) {
        why = 1;
        if (v >= 0 && v <= 399) {
            return behindStroke(s, (int) v / 100, (int) v % 100);
        }
        if (v >= 500 && v <= 599) {
            return behindRub(s, (int) v - 500);
        }
        if (v >= 600 && v <= 699) {
            return behindHabit(s, (int) (v - 600) / 10, (int) v % 10);
        }
        if (v >= 700 && v <= 799) {
            return behindHide(s, (int) v - 700);
        }
        return s;
    }

    private State behindStroke(State s, int h, int c) {
        why = !isHand(h) || !isCell(c) ? 1 : s.found() || s.drawn.contains(c) ? 2
            : !may(s, h, s.habits.get(h), c) ? 3 : 0;
        return why == 0 ? drawing(s, c) : s;
    }

    private State behindRub(State s, int c) {
        why = !isCell(c) ? 1 : s.found() || !s.drawn.contains(c) ? 2 : 0;
        if (why != 0) {
            return s;
        }
        TreeSet<Integer> drawn = new TreeSet<>(s.drawn);
        drawn.remove(c);
        return new State(drawn, s.last == c ? -1 : s.last, s.habits, s.x);
    }

    private State behindHabit(State s, int h, int n) {
        why = !isHand(h) || n < 0 || n > 9 ? 1 : 0;
        if (why != 0) {
            return s;
        }
        List<Integer> habits = new ArrayList<>(s.habits);
        habits.set(h, n);
        return new State(s.drawn, s.last, habits, s.x);
    }

    private State behindHide(State s, int c) {
        why = !isCell(c) ? 1 : s.found() || s.drawn.contains(c) ? 2 : 0;
        return why == 0 ? new State(s.drawn, s.last, s.habits, c) : s;
    }

    private void become(State next) {
        undone.push(state);
        if (undone.size() > 10) {
            undone.removeLast();
        }
        state = next;
    }

    int stroke(int h, int c) {
        State next = behindStroke(state, h, c);
        if (why != 0) {
            return -10 - why;
        }
        become(next);
        return cells() - state.drawn.size();
    }

    int rub(int c) {
        State next = behindRub(state, c);
        if (why != 0) {
            return -10 - why;
        }
        become(next);
        return cells() - state.drawn.size();
    }

    int habit(int h, int n) {
        State next = behindHabit(state, h, n);
        if (why != 0) {
            return -10 - why;
        }
        int was = state.habits.get(h);
        become(next);
        return was;
    }

    int hide(int c) {
        State next = behindHide(state, c);
        if (why != 0) {
            return -10 - why;
        }
        int was = state.x;
        become(next);
        return was;
    }

    int undo(int n) {
        if (n < 1 || n > undone.size()) {
            return -3;
        }
        for (int i = 0; i < n; i++) {
            state = undone.pop();
        }
        return undone.size();
    }

    private static boolean isTray(int t) {
        return t >= 0 && t < 4;
    }

    int judge(int t, int what) {
        if (!isTray(t) || what < 0 || what > 3) {
            return -2;
        }
        if (trays[t] == null) {
            return -6;
        }
        State s = state;
        int place = -1;
        int reason = 0;
        for (int i = 0; i < trays[t].length; i++) {
            s = behind(s, trays[t][i]);
            if (why != 0) {
                place = i;
                reason = why;
                break;
            }
        }
        return new int[] {place, reason, bits(s.drawn), s.found() ? 1 : 0}[what];
    }

    int perform(int t) {
        if (!isTray(t)) {
            return -2;
        }
        if (trays[t] == null) {
            return -6;
        }
        State s = state;
        int done = 0;
        for (long v : trays[t]) {
            s = behind(s, v);
            if (why != 0) {
                break;
            }
            done++;
        }
        if (done > 0) {
            become(s);
        }
        return done;
    }

    private int seed;

    private int draw(int modulo) {
        seed = seed * 1103515245 + 12345;
        return (seed >>> 16) % modulo;
    }

    int night(int x, int times) {
        if (times < 1 || times > 40) {
            return -3;
        }
        seed = x;
        State s = state;
        int done = 0;
        for (int i = 0; i < times; i++) {
            int sort = draw(6);
            if (sort <= 2) {
                int h = draw(4);
                s = behindStroke(s, h, draw(12));
            } else if (sort == 3) {
                s = behindRub(s, draw(12));
            } else if (sort == 4) {
                int h = draw(4);
                s = behindHabit(s, h, draw(10));
            } else {
                s = behindHide(s, draw(12));
            }
            done += why == 0 ? 1 : 0;
        }
        if (done > 0) {
            become(s);
        }
        return done;
    }

    // ---- rows

    /** All rows of a hand, those that are like in length in the order of their cells. */
    private List<Row> all(int h) {
        List<Row> found = new ArrayList<>();
        write(state, h, new int[0], found);
        return found;
    }

    private void write(State s, int h, int[] sofar, List<Row> found) {
        int mine = found.size();
        found.add(null);
        boolean stuck = true;
        for (int c = 0; c < cells(); c++) {
            if (may(s, h, s.habits.get(h), c)) {
                stuck = false;
                int[] longer = Arrays.copyOf(sofar, sofar.length + 1);
                longer[sofar.length] = c;
                write(drawing(s, c), h, longer, found);
            }
        }
        found.set(mine, new Row(sofar, stuck));
    }

    private static boolean has(int[] row, int c) {
        for (int d : row) {
            if (d == c) {
                return true;
            }
        }
        return false;
    }

    private int[] longestRow(int h, int c) {
        int[] best = null;
        for (Row row : all(h)) {
            if (!has(row.cells, c) && (best == null || row.cells.length > best.length)) {
                best = row.cells;
            }
        }
        return best;
    }

    private int[] stuckRow(int h) {
        int[] best = null;
        for (Row row : all(h)) {
            if (row.stuck && (best == null || row.cells.length < best.length)) {
                best = row.cells;
            }
        }
        return best;
    }

    private int[] soonestRow(int h, int c) {
        int[] best = null;
        for (Row row : all(h)) {
            int n = row.cells.length;
            if (n > 0 && row.cells[n - 1] == c && (best == null || n < best.length)) {
                best = row.cells;
            }
        }
        return best;
    }

    private static int at(int[] row, int i) {
        return row == null || i >= row.length ? -1 : row[i];
    }

    private int refused(int h, int c) {
        return !isHand(h) || !isCell(c) ? -2 : state.drawn.contains(c) ? -5 : 0;
    }

    int longest(int h, int c) {
        int no = refused(h, c);
        return no != 0 ? no : longestRow(h, c).length;
    }

    int longWay(int h, int c, int i) {
        int no = refused(h, c);
        return no != 0 ? no : i < 0 ? -3 : at(longestRow(h, c), i);
    }

    int stuck(int h) {
        return !isHand(h) ? -2 : stuckRow(h).length;
    }

    int stuckWay(int h, int i) {
        return !isHand(h) ? -2 : i < 0 ? -3 : at(stuckRow(h), i);
    }

    int soonest(int h, int c) {
        int no = refused(h, c);
        if (no != 0) {
            return no;
        }
        int[] row = soonestRow(h, c);
        return row == null ? -1 : row.length;
    }

    int way(int h, int c, int i) {
        int no = refused(h, c);
        return no != 0 ? no : i < 0 ? -3 : at(soonestRow(h, c), i);
    }

    int reach(int h) {
        if (!isHand(h)) {
            return -2;
        }
        int met = 0;
        for (Row row : all(h)) {
            for (int c : row.cells) {
                met |= 1 << c;
            }
        }
        return met;
    }

    int ahead(int h, int c) {
        int no = refused(h, c);
        if (no != 0) {
            return no;
        }
        int common = -1;
        for (Row row : all(h)) {
            int n = row.cells.length;
            if (n > 0 && row.cells[n - 1] == c) {
                int these = 0;
                for (int i = 0; i < n - 1; i++) {
                    these |= 1 << row.cells[i];
                }
                common &= these;
            }
        }
        return common == -1 ? 0 : common;
    }

    long rows(int h, int n) {
        return !isHand(h) ? -2 : n < 0 || n > 12 ? -3 : all(h).stream().filter(r -> r.cells.length == n).count();
    }

    long ends(int h) {
        return !isHand(h) ? -2 : all(h).stream().filter(Row::stuck).count();
    }

    // ---- how likely one is found

    private static long lowest(BigInteger above, BigInteger below, int what) {
        BigInteger common = above.gcd(below);
        return (what == 0 ? above : below).divide(common).longValueExact();
    }

    int likely(int c, int what) {
        if (!isCell(c) || what < 0 || what > 1) {
            return -2;
        }
        int all = allOdds();
        return all == 0 ? -1 : (int) lowest(BigInteger.valueOf(odds(state, c)), BigInteger.valueOf(all), what);
    }

    int safest(int h, int n, int what) {
        if (!isHand(h) || what < 0 || what > 1 && what < 10 || what > 21) {
            return -2;
        }
        if (n < 0 || n > 12) {
            return -3;
        }
        int all = allOdds();
        int[] best = null;
        int least = 0;
        for (Row row : all(h)) {
            int sum = 0;
            for (int c : row.cells) {
                sum += odds(state, c);
            }
            if (row.cells.length == n && (best == null || sum < least)) {
                best = row.cells;
                least = sum;
            }
        }
        if (all == 0 || best == null) {
            return -1;
        }
        return what >= 10 ? at(best, what - 10)
            : (int) lowest(BigInteger.valueOf(all - least), BigInteger.valueOf(all), what);
    }

    int likeliest() {
        int best = -1;
        for (int c = cells() - 1; c >= 0; c--) {
            if (odds(state, c) > 0 && (best < 0 || odds(state, c) >= odds(state, best))) {
                best = c;
            }
        }
        return best;
    }

    // ---- two by turns

    /** Who is to draw: whether they win, and in how many strokes. */
    private int[] play(State s, int mine, int theirs, int other) {
        boolean any = false;
        int soonest = Integer.MAX_VALUE;
        int latest = -1;
        for (int c = 0; c < cells(); c++) {
            if (may(s, mine, s.habits.get(mine), c)) {
                any = true;
                int[] reply = play(drawing(s, c), theirs, mine, other);
                if (reply[0] == 0) {
                    soonest = Math.min(soonest, 1 + reply[1]);
                } else {
                    latest = Math.max(latest, 1 + reply[1]);
                }
            }
        }
        if (!any) {
            return new int[] {other, 0};
        }
        return soonest < Integer.MAX_VALUE ? new int[] {1, soonest} : new int[] {0, latest};
    }

    private boolean noGame(int h, int g, int other) {
        return !isHand(h) || !isHand(g) || other < 0 || other > 1;
    }

    int wins(int h, int g, int other) {
        return noGame(h, g, other) ? -2 : play(state, h, g, other)[0];
    }

    int best(int h, int g, int other) {
        if (noGame(h, g, other)) {
            return -2;
        }
        for (int c = 0; c < cells(); c++) {
            if (may(state, h, state.habits.get(h), c) && play(drawing(state, c), g, h, other)[0] == 0) {
                return c;
            }
        }
        return -1;
    }

    int lasts(int h, int g, int other) {
        return noGame(h, g, other) ? -2 : play(state, h, g, other)[1];
    }

    // ---- seen

    private int seenRefusal(int t) {
        if (trays[t] == null) {
            return -6;
        }
        if (trays[t].length < 1 || trays[t].length > 12) {
            return -4;
        }
        TreeSet<Long> met = new TreeSet<>();
        for (long v : trays[t]) {
            if (v < 0 || v >= cells() || state.drawn.contains((int) v) || !met.add(v)) {
                return -3;
            }
        }
        return 0;
    }

    int habits(int t, int h) {
        if (!isTray(t) || !isHand(h)) {
            return -2;
        }
        int no = seenRefusal(t);
        if (no != 0) {
            return no;
        }
        int bits = 0;
        for (int n = 0; n < 10; n++) {
            State s = state;
            boolean fits = true;
            for (long v : trays[t]) {
                fits &= may(s, h, n, (int) v);
                s = drawing(s, (int) v);
            }
            bits |= fits ? 1 << n : 0;
        }
        return bits;
    }

    int look(int t, int h) {
        int bits = habits(t, h);
        if (bits < 0) {
            return bits;
        }
        int best = -1;
        int most = -1;
        for (int c = 0; c < cells() && bits != 0; c++) {
            if (!state.drawn.contains(c)) {
                int yes = 0;
                int no = 0;
                for (int n = 0; n < 10; n++) {
                    if ((bits >> n & 1) != 0) {
                        if (may(state, h, n, c)) {
                            yes++;
                        } else {
                            no++;
                        }
                    }
                }
                if (Math.min(yes, no) > most) {
                    most = Math.min(yes, no);
                    best = c;
                }
            }
        }
        return best;
    }

    /** All rows of hands, in their order. */
    private void handRows(State s, int t, int[] sofar, List<int[]> found) {
        if (sofar.length == trays[t].length) {
            found.add(sofar);
            return;
        }
        int c = (int) trays[t][sofar.length];
        for (int h = 0; h < paper.hands; h++) {
            if (may(s, h, s.habits.get(h), c)) {
                int[] longer = Arrays.copyOf(sofar, sofar.length + 1);
                longer[sofar.length] = h;
                handRows(drawing(s, c), t, longer, found);
            }
        }
    }

    long carried(int t) {
        if (!isTray(t)) {
            return -2;
        }
        int no = seenRefusal(t);
        if (no != 0) {
            return no;
        }
        List<int[]> found = new ArrayList<>();
        handRows(state, t, new int[0], found);
        return found.size();
    }

    int changes(int t, int what) {
        if (!isTray(t) || what != 0 && (what < 10 || what > 21)) {
            return -2;
        }
        int no = seenRefusal(t);
        if (no != 0) {
            return no;
        }
        List<int[]> found = new ArrayList<>();
        handRows(state, t, new int[0], found);
        int[] best = null;
        int fewest = 99;
        for (int[] row : found) {
            int changes = 0;
            for (int i = 1; i < row.length; i++) {
                changes += row[i] != row[i - 1] ? 1 : 0;
            }
            if (changes < fewest) {
                fewest = changes;
                best = row;
            }
        }
        return best == null ? -1 : what == 0 ? fewest : at(best, what - 10);
    }

    int covers(int t, int c, int what) {
        if (!isTray(t) || !isCell(c) || what < 0 || what > 1) {
            return -2;
        }
        if (trays[t] == null) {
            return -6;
        }
        if (trays[t].length < 1 || trays[t].length > 10) {
            return -4;
        }
        for (long v : trays[t]) {
            if (v < 0 || v >= 1L << cells()) {
                return -3;
            }
        }
        for (int size = 0; size <= trays[t].length; size++) {
            for (int set = 0; set < 1 << trays[t].length; set++) {
                boolean good = Integer.bitCount(set) == size;
                for (int d = 0; d < cells() && good; d++) {
                    boolean in = false;
                    for (int i = 0; i < trays[t].length; i++) {
                        in |= (set >> i & 1) != 0 && (trays[t][i] >> d & 1) != 0;
                    }
                    good = in == (d != c);
                }
                if (good) {
                    return what == 0 ? size : set;
                }
            }
        }
        return -1;
    }

    // ---- chances

    /** How likely a cell is drawn, as a fraction {above, below}. */
    private BigInteger[] drawnBy(State s, int h, int c, int n) {
        if (s.drawn.contains(c)) {
            return new BigInteger[] {BigInteger.ONE, BigInteger.ONE};
        }
        BigInteger[] sum = {BigInteger.ZERO, BigInteger.ONE};
        if (n == 0) {
            return sum;
        }
        List<Integer> open = new ArrayList<>();
        for (int d = 0; d < cells(); d++) {
            if (may(s, h, s.habits.get(h), d)) {
                open.add(d);
            }
        }
        for (int d : open) {
            BigInteger[] part = drawnBy(drawing(s, d), h, c, n - 1);
            BigInteger below = part[1].multiply(BigInteger.valueOf(open.size()));
            sum = new BigInteger[] {sum[0].multiply(below).add(part[0].multiply(sum[1])), sum[1].multiply(below)};
            BigInteger common = sum[0].gcd(sum[1]);
            sum = new BigInteger[] {sum[0].divide(common), sum[1].divide(common)};
        }
        return sum;
    }

    long chance(int h, int c, int n, int what) {
        if (!isHand(h) || !isCell(c) || what < 0 || what > 1) {
            return -2;
        }
        if (n < 0 || n > 4) {
            return -3;
        }
        BigInteger[] likely = drawnBy(state, h, c, n);
        return lowest(likely[0], likely[1], what);
    }

    int latest(int h, int n) {
        if (!isHand(h)) {
            return -2;
        }
        if (n < 0 || n > 4) {
            return -3;
        }
        int best = -1;
        BigInteger[] least = null;
        for (int c = 0; c < cells(); c++) {
            if (!state.drawn.contains(c)) {
                BigInteger[] likely = drawnBy(state, h, c, n);
                if (best < 0 || likely[0].multiply(least[1]).compareTo(least[0].multiply(likely[1])) < 0) {
                    best = c;
                    least = likely;
                }
            }
        }
        return best;
    }

    // ---- trays, images

    int numbers(int t, int sort, int n) {
        if (!isTray(t) || sort < 0 || sort > 3) {
            return -2;
        }
        if (n < 0 || n > 40) {
            return -3;
        }
        trays[t] = new long[n];
        sorts[t] = sort;
        return 0;
    }

    private long put(int t, int i, long v) {
        int away = 64 - (8 << sorts[t]);
        trays[t][i] = v << away >> away;
        return trays[t][i];
    }

    long write(int t, int i, long v) {
        if (!isTray(t)) {
            return -2;
        }
        if (trays[t] == null) {
            return -6;
        }
        return i < 0 || i >= trays[t].length ? -7 : put(t, i, v);
    }

    int lists(int t, int h) {
        if (!isTray(t) || !isHand(h)) {
            return -2;
        }
        if (trays[t] == null) {
            return -6;
        }
        int[] row = stuckRow(h);
        int n = Math.min(row.length, trays[t].length);
        for (int i = 0; i < n; i++) {
            put(t, i, row[i]);
        }
        return n;
    }

    int image(int i) {
        if (i < 0 || i > 1) {
            return -2;
        }
        imagePapers[i] = paper;
        imageStates[i] = state;
        return 0;
    }

    int restore(int i) {
        if (i < 0 || i > 1) {
            return -2;
        }
        if (imagePapers[i] == null) {
            return -5;
        }
        paper = imagePapers[i];
        state = imageStates[i];
        undone.clear();
        return 0;
    }

    int count(int what) {
        int[] answers = {paper.rows, paper.cols, cells(), paper.hands, bits(state.drawn), state.last, state.x,
            state.found() ? 1 : 0, allOdds(), undone.size(), tape.length(), paper.lines};
        return what < 0 || what >= answers.length ? -1 : answers[what];
    }

    int undrawn() {
        return cells() - state.drawn.size();
    }

    private Paper smallPaper;
    private State smallState;
    private boolean small;

    /** Whether the rows that hands can draw by whatever turns are few enough to be written out. */
    boolean isSmall() {
        if (smallPaper != paper || smallState != state) {
            smallPaper = paper;
            smallState = state;
            small = rowsWithin(state, 2500) > 0;
        }
        return small;
    }

    private int rowsWithin(State s, int most) {
        int rest = most - 1;
        for (int c = 0; c < cells() && rest > 0; c++) {
            boolean any = false;
            for (int h = 0; h < paper.hands; h++) {
                any |= may(s, h, s.habits.get(h), c);
            }
            if (any) {
                rest = rowsWithin(drawing(s, c), rest);
            }
        }
        return rest;
    }
}
