import java.util.Arrays;

/** A sheet of cells told as a text, drawn by hands under laws; ../shared/DOC.md says what each call answers. */
public final class LastMark {
    public static final int NONE = -1;

    private static final int NO_SUCH = -2;
    private static final int BAD_NUMBER = -3;
    private static final int TOO_MANY = -4;
    private static final int NOT_NOW = -5;
    private static final int TRAY_MISSING = -6;
    private static final int NO_PLACE = -7;
    private static final int WHY_NOT = -10;
    private static final int FAULTY = -30;

    private static final int TAPE_BYTES = 900;
    private static final int FED_BYTES = 20;
    private static final int MOST_CELLS = 12;
    private static final int MOST_HANDS = 4;
    private static final int MOST_HABITS = 10;
    private static final int MOST_STROKES = 12;
    private static final int CHANCE_STROKES = 4;
    private static final int MOST_TIMES = 40;
    private static final int MOST_SHEETS = 10;
    private static final int TRAYS = 4;
    private static final int SORTS = 4;
    private static final int IMAGES = 2;
    /** A call answers the i-th cell or hand by what 10 + i. */
    private static final int FIRST_STEP = 10;

    private final byte[] tape = new byte[TAPE_BYTES];
    private int taped = 0;
    private Sheet paper;
    private final Page page;
    private final Page before;
    private final Page trial;
    private final History history;
    private final Reader reader;
    private final Paths paths;
    private final Chances chances;
    private final Seen seen;
    private final Tray[] trays;
    private final Sheet[] imagePapers;
    private final Page[] imagePages;

    public LastMark() {
        paper = new Sheet(1, 1, new int[1], 0, 0, null, null);
        page = new Page();
        before = new Page();
        trial = new Page();
        history = new History();
        reader = new Reader();
        Permit[] permits = new Permit[MOST_HANDS];
        for (int h = 0; h < permits.length; h++) {
            permits[h] = new Permit(paper, h);
        }
        paths = new Paths(paper, permits);
        chances = new Chances(permits);
        seen = new Seen();
        trays = new Tray[TRAYS];
        for (int t = 0; t < trays.length; t++) {
            trays[t] = new Tray();
        }
        imagePapers = new Sheet[IMAGES];
        imagePages = new Page[IMAGES];
        for (int i = 0; i < imagePages.length; i++) {
            imagePages[i] = new Page();
        }
    }

    // ---- the sheet

    public int feed(int a, int b, int c, int d, int e) {
        if (taped + FED_BYTES > TAPE_BYTES) {
            return NOT_NOW;
        }
        tapeFour(a);
        tapeFour(b);
        tapeFour(c);
        tapeFour(d);
        tapeFour(e);
        return taped;
    }

    private void tapeFour(int bytes) {
        for (int shift = 24; shift >= 0 && taped < tape.length; shift -= 8) {
            tape[taped] = (byte) (bytes >> shift);
            taped++;
        }
    }

    public int sheet(int n) {
        if (n < 0 || n > taped) {
            return BAD_NUMBER;
        }
        Sheet told = reader.read(tape, n);
        taped = 0;
        if (told == null) {
            return FAULTY - reader.fault;
        }
        paper = told;
        page.copy(reader.start);
        history.forget();
        return paper.lines;
    }

    public int fault(int what) {
        switch (what) {
            case 0: return reader.fault;
            case 1: return reader.place;
            default: return NONE;
        }
    }

    public int cell(int c, int what) {
        if (!paper.hasCell(c)) {
            return NO_SUCH;
        }
        switch (what) {
            case 0: return paper.kindOf(c);
            case 1: return page.isDrawn(c) ? 1 : 0;
            case 2: return paper.near(c, page.drawn);
            case 3: return paper.oddsOf(c, page.drawn);
            case 4: return handsFor(c);
            case 5: return paper.steps(c, page.last);
            default: return NO_SUCH;
        }
    }

    private int handsFor(int c) {
        int bits = 0;
        for (int h = 0; h < paper.hands; h++) {
            if (page.whyNotDraw(paper, h, c) == 0) {
                bits |= 1 << h;
            }
        }
        return bits;
    }

    public int hand(int h, int what) {
        if (!paper.hasHand(h)) {
            return NO_SUCH;
        }
        switch (what) {
            case 0: return page.habitOf(h);
            case 1: return cellsFor(h);
            default: return NO_SUCH;
        }
    }

    private int cellsFor(int h) {
        int bits = 0;
        for (int c = 0; c < paper.cells; c++) {
            if (page.whyNotDraw(paper, h, c) == 0) {
                bits |= 1 << c;
            }
        }
        return bits;
    }

    // ---- deeds

    public int stroke(int h, int c) {
        before.copy(page);
        int why = page.draw(paper, h, c);
        return why == 0 ? keptLeft() : WHY_NOT - why;
    }

    public int rub(int c) {
        before.copy(page);
        int why = page.erase(paper, c);
        return why == 0 ? keptLeft() : WHY_NOT - why;
    }

    private int keptLeft() {
        history.keep(before);
        return paper.left(page.drawn);
    }

    public int habit(int h, int n) {
        before.copy(page);
        int why = page.adopt(paper, h, n);
        if (why != 0) {
            return WHY_NOT - why;
        }
        history.keep(before);
        return before.habitOf(h);
    }

    public int hide(int c) {
        before.copy(page);
        int why = page.conceal(paper, c);
        if (why != 0) {
            return WHY_NOT - why;
        }
        history.keep(before);
        return before.spot;
    }

    public int undo(int n) {
        if (n < 1 || n > history.kept) {
            return BAD_NUMBER;
        }
        history.bringBack(n, page);
        return history.kept;
    }

    public int judge(int tray, int what) {
        if (!isTray(tray) || what < 0 || what > 3) {
            return NO_SUCH;
        }
        Tray deeds = trays[tray];
        if (deeds.isMissing()) {
            return TRAY_MISSING;
        }
        trial.copy(page);
        int place = NONE;
        int why = 0;
        for (int i = 0; i < deeds.size && why == 0; i++) {
            why = trial.obey(paper, deeds.at(i));
            place = why == 0 ? NONE : i;
        }
        switch (what) {
            case 0: return place;
            case 1: return why;
            case 2: return trial.drawn;
            default: return trial.isFound() ? 1 : 0;
        }
    }

    public int perform(int tray) {
        if (!isTray(tray)) {
            return NO_SUCH;
        }
        Tray deeds = trays[tray];
        if (deeds.isMissing()) {
            return TRAY_MISSING;
        }
        before.copy(page);
        int done = 0;
        for (int i = 0; i < deeds.size && page.obey(paper, deeds.at(i)) == 0; i++) {
            done++;
        }
        return keptIfAny(done);
    }

    private int keptIfAny(int done) {
        if (done > 0) {
            history.keep(before);
        }
        return done;
    }

    public int night(int seed, int times) {
        if (times < 1 || times > MOST_TIMES) {
            return BAD_NUMBER;
        }
        before.copy(page);
        int x = seed;
        int done = 0;
        for (int i = 0; i < times; i++) {
            x = shaken(x);
            int sort = (x >>> 16) % 6;
            x = shaken(x);
            int one = x >>> 16;
            int two = 0;
            if (sort < 3 || sort == 4) {
                x = shaken(x);
                two = x >>> 16;
            }
            if (page.obey(paper, nightDeed(sort, one, two)) == 0) {
                done++;
            }
        }
        return keptIfAny(done);
    }

    private static int shaken(int x) {
        return 1103515245 * x + 12345;
    }

    /** What was drawn at night, as the number that tells the same deed in a tray. */
    private static int nightDeed(int sort, int one, int two) {
        switch (sort) {
            case 3: return Page.RUBS + one % 12;
            case 4: return Page.HABITS + one % 4 * 10 + two % 10;
            case 5: return Page.HIDES + one % 12;
            default: return one % 4 * 100 + two % 12;
        }
    }

    // ---- rows

    public int longest(int h, int c) {
        int refused = refusedCell(h, c);
        if (refused != 0) {
            return refused;
        }
        paths.begin(paper, page, h, h);
        return paths.solve(Paths.LONGEST, c);
    }

    /** The refusal of a call about a hand and a cell that isn't drawn; 0 if there is none. */
    private int refusedCell(int h, int c) {
        if (!paper.hasHand(h) || !paper.hasCell(c)) {
            return NO_SUCH;
        }
        return page.isDrawn(c) ? NOT_NOW : 0;
    }

    public int longWay(int h, int c, int i) {
        int refused = refusedCell(h, c);
        if (refused != 0) {
            return refused;
        }
        if (i < 0) {
            return BAD_NUMBER;
        }
        paths.begin(paper, page, h, h);
        paths.solve(Paths.LONGEST, c);
        return paths.step(i);
    }

    public int stuck(int h) {
        if (!paper.hasHand(h)) {
            return NO_SUCH;
        }
        paths.begin(paper, page, h, h);
        return paths.solve(Paths.STUCK, 0);
    }

    public int stuckWay(int h, int i) {
        if (!paper.hasHand(h)) {
            return NO_SUCH;
        }
        if (i < 0) {
            return BAD_NUMBER;
        }
        paths.begin(paper, page, h, h);
        paths.solve(Paths.STUCK, 0);
        return paths.step(i);
    }

    public int soonest(int h, int c) {
        int refused = refusedCell(h, c);
        if (refused != 0) {
            return refused;
        }
        paths.begin(paper, page, h, h);
        int strokes = paths.solve(Paths.SOONEST, c);
        return strokes >= Paths.NEVER ? NONE : strokes;
    }

    public int way(int h, int c, int i) {
        int refused = refusedCell(h, c);
        if (refused != 0) {
            return refused;
        }
        if (i < 0) {
            return BAD_NUMBER;
        }
        paths.begin(paper, page, h, h);
        paths.solve(Paths.SOONEST, c);
        return paths.step(i);
    }

    public int reach(int h) {
        if (!paper.hasHand(h)) {
            return NO_SUCH;
        }
        paths.begin(paper, page, h, h);
        return paths.reached();
    }

    public int ahead(int h, int c) {
        int refused = refusedCell(h, c);
        if (refused != 0) {
            return refused;
        }
        paths.begin(paper, page, h, h);
        return paths.needed(c);
    }

    public long rows(int h, int n) {
        if (!paper.hasHand(h)) {
            return NO_SUCH;
        }
        if (n < 0 || n > MOST_STROKES) {
            return BAD_NUMBER;
        }
        paths.begin(paper, page, h, h);
        paths.tally();
        return paths.totals[n];
    }

    public long ends(int h) {
        if (!paper.hasHand(h)) {
            return NO_SUCH;
        }
        paths.begin(paper, page, h, h);
        paths.tally();
        return paths.stuckRows;
    }

    // ---- how likely one is found

    public int likely(int c, int what) {
        if (!paper.hasCell(c) || what < 0 || what > 1) {
            return NO_SUCH;
        }
        int all = paper.allOdds(page.drawn);
        if (all == 0) {
            return NONE;
        }
        return (int) inLowestTerms(paper.oddsOf(c, page.drawn), all, what);
    }

    /** The number above (0) or below (1) of a fraction of which the one below isn't 0. */
    private static long inLowestTerms(long above, long below, int what) {
        long divisor = above;
        long rest = below;
        for (int i = 0; i < 200 && rest != 0; i++) {
            long next = divisor % rest;
            divisor = rest;
            rest = next;
        }
        if (divisor == 0) {
            return 0;
        }
        return what == 0 ? above / divisor : below / divisor;
    }

    public int safest(int h, int n, int what) {
        if (!paper.hasHand(h) || !isPart(what, 1)) {
            return NO_SUCH;
        }
        if (n < 0 || n > MOST_STROKES) {
            return BAD_NUMBER;
        }
        int all = paper.allOdds(page.drawn);
        if (all == 0) {
            return NONE;
        }
        paths.begin(paper, page, h, h);
        int risk = paths.solve(Paths.SAFEST, n);
        if (risk >= Paths.NEVER) {
            return NONE;
        }
        return what >= FIRST_STEP ? paths.step(what - FIRST_STEP) : (int) inLowestTerms(all - risk, all, what);
    }

    /** Whether a call that tells numbers up to most, and twelve steps, can tell this. */
    private static boolean isPart(int what, int most) {
        return what >= 0 && what <= most || what >= FIRST_STEP && what < FIRST_STEP + MOST_STROKES;
    }

    public int likeliest() {
        int most = 0;
        int likeliestCell = NONE;
        for (int c = 0; c < paper.cells; c++) {
            int odds = paper.oddsOf(c, page.drawn);
            if (odds > most) {
                most = odds;
                likeliestCell = c;
            }
        }
        return likeliestCell;
    }

    // ---- two by turns

    public int wins(int h, int g, int other) {
        if (isNoGame(h, g, other)) {
            return NO_SUCH;
        }
        paths.begin(paper, page, h, g);
        return paths.solve(Paths.GAME, other) > 0 ? 1 : 0;
    }

    private boolean isNoGame(int h, int g, int other) {
        return !paper.hasHand(h) || !paper.hasHand(g) || other < 0 || other > 1;
    }

    public int best(int h, int g, int other) {
        if (isNoGame(h, g, other)) {
            return NO_SUCH;
        }
        paths.begin(paper, page, h, g);
        paths.solve(Paths.GAME, other);
        return paths.firstWinning();
    }

    public int lasts(int h, int g, int other) {
        if (isNoGame(h, g, other)) {
            return NO_SUCH;
        }
        paths.begin(paper, page, h, g);
        return Math.abs(paths.solve(Paths.GAME, other)) - 1;
    }

    // ---- seen

    public int habits(int tray, int h) {
        if (!isTray(tray) || !paper.hasHand(h)) {
            return NO_SUCH;
        }
        int refused = seen.refusal(paper, page, trays[tray]);
        return refused != 0 ? refused : seen.fitting(paper, page, trays[tray], h);
    }

    public int look(int tray, int h) {
        if (!isTray(tray) || !paper.hasHand(h)) {
            return NO_SUCH;
        }
        int refused = seen.refusal(paper, page, trays[tray]);
        return refused != 0 ? refused : seen.telling(paper, page, trays[tray], h);
    }

    public long carried(int tray) {
        if (!isTray(tray)) {
            return NO_SUCH;
        }
        int refused = seen.refusal(paper, page, trays[tray]);
        return refused != 0 ? refused : seen.authors(paper, page, trays[tray]);
    }

    public int changes(int tray, int what) {
        if (!isTray(tray) || !isPart(what, 0)) {
            return NO_SUCH;
        }
        int refused = seen.refusal(paper, page, trays[tray]);
        if (refused != 0) {
            return refused;
        }
        int fewest = seen.fewestChanges(paper, page, trays[tray]);
        if (what == 0 || fewest == NONE) {
            return fewest;
        }
        return what - FIRST_STEP < trays[tray].size ? seen.author(what - FIRST_STEP) : NONE;
    }

    public int covers(int tray, int c, int what) {
        if (!isTray(tray) || !paper.hasCell(c) || what < 0 || what > 1) {
            return NO_SUCH;
        }
        Tray sets = trays[tray];
        if (sets.isMissing()) {
            return TRAY_MISSING;
        }
        if (sets.size < 1 || sets.size > MOST_SHEETS) {
            return TOO_MANY;
        }
        if (!sets.isWithin(paper.all)) {
            return BAD_NUMBER;
        }
        int chosen = seen.fewestCovering(sets, paper.all & ~(1 << c));
        if (chosen == NONE || what == 1) {
            return chosen;
        }
        return Integer.bitCount(chosen);
    }

    // ---- chances

    public long chance(int h, int c, int n, int what) {
        if (!paper.hasHand(h) || !paper.hasCell(c) || what < 0 || what > 1) {
            return NO_SUCH;
        }
        if (n < 0 || n > CHANCE_STROKES) {
            return BAD_NUMBER;
        }
        if (page.isDrawn(c)) {
            return 1;
        }
        chances.begin(paper, page, h, n);
        return inLowestTerms(chances.shares[c], chances.whole, what);
    }

    public int latest(int h, int n) {
        if (!paper.hasHand(h)) {
            return NO_SUCH;
        }
        if (n < 0 || n > CHANCE_STROKES) {
            return BAD_NUMBER;
        }
        chances.begin(paper, page, h, n);
        int latestCell = NONE;
        for (int c = 0; c < paper.cells; c++) {
            if (!page.isDrawn(c) && (latestCell == NONE || chances.shares[c] < chances.shares[latestCell])) {
                latestCell = c;
            }
        }
        return latestCell;
    }

    // ---- trays, images

    private static boolean isTray(int tray) {
        return tray >= 0 && tray < TRAYS;
    }

    public int numbers(int tray, int sort, int n) {
        if (!isTray(tray) || sort < 0 || sort >= SORTS) {
            return NO_SUCH;
        }
        if (n < 0 || n > Tray.PLACES) {
            return BAD_NUMBER;
        }
        trays[tray].lay(sort, n);
        return 0;
    }

    public long write(int tray, int i, long v) {
        if (!isTray(tray)) {
            return NO_SUCH;
        }
        if (trays[tray].isMissing()) {
            return TRAY_MISSING;
        }
        if (i < 0 || i >= trays[tray].size) {
            return NO_PLACE;
        }
        return trays[tray].put(i, v);
    }

    public int lists(int tray, int h) {
        if (!isTray(tray) || !paper.hasHand(h)) {
            return NO_SUCH;
        }
        if (trays[tray].isMissing()) {
            return TRAY_MISSING;
        }
        paths.begin(paper, page, h, h);
        int listed = Math.min(paths.solve(Paths.STUCK, 0), trays[tray].size);
        for (int i = 0; i < listed; i++) {
            trays[tray].put(i, paths.step(i));
        }
        return listed;
    }

    public int image(int i) {
        if (i < 0 || i >= IMAGES) {
            return NO_SUCH;
        }
        imagePapers[i] = paper;
        imagePages[i].copy(page);
        return 0;
    }

    public int restore(int i) {
        if (i < 0 || i >= IMAGES) {
            return NO_SUCH;
        }
        Sheet kept = imagePapers[i];
        if (kept == null) {
            return NOT_NOW;
        }
        paper = kept;
        page.copy(imagePages[i]);
        history.forget();
        return 0;
    }

    public int count(int what) {
        switch (what) {
            case 0: return paper.rowCount;
            case 1: return paper.columns;
            case 2: return paper.cells;
            case 3: return paper.hands;
            case 4: return page.drawn;
            case 5: return page.last;
            case 6: return page.spot;
            case 7: return page.isFound() ? 1 : 0;
            case 8: return paper.allOdds(page.drawn);
            case 9: return history.kept;
            case 10: return taped;
            case 11: return paper.lines;
            default: return NONE;
        }
    }

    /** A law as the text told it, its operators behind what they join. */
    private static final class Law {
        static final int CELL = 0;
        static final int KIND = 1;
        static final int NEAR = 2;
        static final int LEFT = 3;
        static final int HAND = 4;
        static final int HABIT = 5;
        static final int LAST = 6;
        static final int FAR = 7;
        static final int FACTS = 8;

        /** Codes below this one are numbers. */
        static final int FIRST_FACT = 1000;
        static final int FIRST_SIGN = 2000;
        static final int NOT = FIRST_SIGN;
        static final int OR = FIRST_SIGN + 1;
        static final int AND = FIRST_SIGN + 2;
        static final int EQUAL = FIRST_SIGN + 3;
        static final int LESS = FIRST_SIGN + 4;
        static final int GREATER = FIRST_SIGN + 5;
        static final int PLUS = FIRST_SIGN + 6;
        static final int MINUS = FIRST_SIGN + 7;
        static final int TIMES = FIRST_SIGN + 8;

        private static final int MOST = 1000000;
        /** Six brackets within one another, with at most five values waiting in each, stay far below. */
        private static final int WAITING = 64;

        private final int[] codes;
        private final int[] stack = new int[WAITING];
        /** Which facts the law looks at, as bits. */
        final int uses;

        Law(int[] written, int size) {
            codes = Arrays.copyOf(written, Math.max(0, Math.min(size, written.length)));
            int met = 0;
            for (int i = 0; i < codes.length; i++) {
                if (codes[i] >= FIRST_FACT && codes[i] < FIRST_FACT + FACTS) {
                    met |= 1 << (codes[i] - FIRST_FACT);
                }
            }
            uses = met;
        }

        int value(int[] facts) {
            int top = 0;
            for (int i = 0; i < codes.length; i++) {
                int code = codes[i];
                if (code < FIRST_FACT + FACTS) {
                    if (top < stack.length) {
                        stack[top] = code < FIRST_FACT ? code : facts[code - FIRST_FACT];
                        top++;
                    }
                } else if (code == NOT) {
                    if (top > 0) {
                        stack[top - 1] = 1 - stack[top - 1];
                    }
                } else if (top > 1) {
                    top--;
                    stack[top - 1] = joined(code, stack[top - 1], stack[top]);
                }
            }
            return top > 0 ? stack[top - 1] : 0;
        }

        private static int joined(int sign, int a, int b) {
            long all;
            switch (sign) {
                case OR: return a | b;
                case AND: return a & b;
                case EQUAL: return a == b ? 1 : 0;
                case LESS: return a < b ? 1 : 0;
                case GREATER: return a > b ? 1 : 0;
                case PLUS: all = a + b; break;
                case MINUS: all = a - b; break;
                default: all = (long) a * b; break;
            }
            return (int) Math.max(-MOST, Math.min(MOST, all));
        }
    }

    /** What the text tells and no deed changes. */
    private static final class Sheet {
        final int rowCount;
        final int columns;
        final int cells;
        /** All cells, as bits. */
        final int all;
        final int hands;
        final int lines;
        final boolean nearMatters;
        final boolean leftMatters;
        final boolean lastMatters;
        private final int[] kinds;
        private final int[] neighbours;
        private final Law may;
        private final Law odds;
        private final int[] facts = new int[Law.FACTS];

        Sheet(int rowCount, int columns, int[] kinds, int hands, int lines, Law may, Law odds) {
            this.rowCount = Math.max(1, rowCount);
            this.columns = Math.max(1, columns);
            this.cells = Math.min(MOST_CELLS, this.rowCount * this.columns);
            this.all = (1 << cells) - 1;
            this.hands = hands;
            this.lines = lines;
            this.kinds = Arrays.copyOf(kinds, cells);
            this.may = may;
            this.odds = odds;
            int uses = may == null ? 0 : may.uses;
            nearMatters = (uses >> Law.NEAR & 1) != 0;
            leftMatters = (uses >> Law.LEFT & 1) != 0;
            lastMatters = (uses >> Law.LAST & 1) != 0 || (uses >> Law.FAR & 1) != 0;
            neighbours = new int[cells];
            for (int c = 0; c < cells; c++) {
                if ((c + 1) % this.columns != 0 && c + 1 < cells) {
                    neighbours[c] |= 1 << (c + 1);
                    neighbours[c + 1] |= 1 << c;
                }
                if (c + this.columns < cells) {
                    neighbours[c] |= 1 << (c + this.columns);
                    neighbours[c + this.columns] |= 1 << c;
                }
            }
        }

        boolean hasHand(int h) {
            return h >= 0 && h < hands;
        }

        boolean hasCell(int c) {
            return c >= 0 && c < cells;
        }

        int kindOf(int c) {
            return c >= 0 && c < kinds.length ? kinds[c] : 0;
        }

        int near(int c, int drawn) {
            return c >= 0 && c < neighbours.length ? Integer.bitCount(neighbours[c] & drawn) : 0;
        }

        int left(int drawn) {
            return cells - Integer.bitCount(drawn);
        }

        /** The sheet has no holes, so a shortest walk is as long as the differences of rows and of columns. */
        int steps(int c, int last) {
            if (last == NONE) {
                return 0;
            }
            return Math.abs(c / columns - last / columns) + Math.abs(c % columns - last % columns);
        }

        int oddsOf(int c, int drawn) {
            if (!hasCell(c) || (drawn >> c & 1) != 0) {
                return 0;
            }
            if (odds == null) {
                return 1;
            }
            tellPlace(c, near(c, drawn), left(drawn));
            return Math.max(0, Math.min(999, odds.value(facts)));
        }

        int allOdds(int drawn) {
            int sum = 0;
            for (int c = 0; c < cells; c++) {
                sum += oddsOf(c, drawn);
            }
            return sum;
        }

        private void tellPlace(int c, int near, int left) {
            facts[Law.CELL] = c;
            facts[Law.KIND] = kindOf(c);
            facts[Law.NEAR] = near;
            facts[Law.LEFT] = left;
        }

        /** Whether the law may holds for a cell of which so many neighbours are drawn. */
        boolean holds(int h, int habit, int c, int near, int left, int last) {
            if (may == null) {
                return true;
            }
            tellPlace(c, near, left);
            facts[Law.HAND] = h;
            facts[Law.HABIT] = habit;
            facts[Law.LAST] = last == NONE ? 9 : kindOf(last);
            facts[Law.FAR] = steps(c, last);
            return may.value(facts) != 0;
        }

        boolean allows(int h, int habit, int c, int drawn, int last) {
            return hasCell(c) && (drawn >> c & 1) == 0 && holds(h, habit, c, near(c, drawn), left(drawn), last);
        }

        /** A bit, near by 12 and cell, for each cell that isn't drawn; near is 0 where the law doesn't ask. */
        long nearness(int drawn) {
            if (!nearMatters) {
                return all & ~drawn;
            }
            long bits = 0;
            for (int c = 0; c < cells; c++) {
                if ((drawn >> c & 1) == 0) {
                    bits |= 1L << (Integer.bitCount(neighbours[c] & drawn) * MOST_CELLS + c);
                }
            }
            return bits;
        }
    }

    /** What deeds change, and how: all that can be undone. */
    private static final class Page {
        static final int RUBS = 500;
        static final int HABITS = 600;
        static final int HIDES = 700;
        private static final int DRAWS_END = 400;
        private static final int HIDES_END = 800;
        private static final int NOT_THERE = 1;
        private static final int NOT_SO = 2;
        private static final int UNLAWFUL = 3;

        int drawn = 0;
        int last = NONE;
        /** X, where the author will be found. */
        int spot = NONE;
        /** Another one behind each change, so that what was worked out can be told from what is out of date. */
        int version = 0;
        private final int[] habitsOfHands = new int[MOST_HANDS];

        void copy(Page from) {
            drawn = from.drawn;
            last = from.last;
            spot = from.spot;
            for (int h = 0; h < habitsOfHands.length; h++) {
                habitsOfHands[h] = from.habitsOfHands[h];
            }
            version++;
        }

        boolean isDrawn(int c) {
            return (drawn >> c & 1) != 0;
        }

        boolean isFound() {
            return spot != NONE && isDrawn(spot);
        }

        int habitOf(int h) {
            return h >= 0 && h < habitsOfHands.length ? habitsOfHands[h] : 0;
        }

        int whyNotDraw(Sheet sheet, int h, int c) {
            if (!sheet.hasHand(h) || !sheet.hasCell(c)) {
                return NOT_THERE;
            }
            if (isFound() || isDrawn(c)) {
                return NOT_SO;
            }
            return sheet.allows(h, habitOf(h), c, drawn, last) ? 0 : UNLAWFUL;
        }

        int draw(Sheet sheet, int h, int c) {
            int why = whyNotDraw(sheet, h, c);
            if (why == 0) {
                mark(c);
            }
            return why;
        }

        void mark(int c) {
            drawn |= 1 << c;
            last = c;
            version++;
        }

        int erase(Sheet sheet, int c) {
            if (!sheet.hasCell(c)) {
                return NOT_THERE;
            }
            if (isFound() || !isDrawn(c)) {
                return NOT_SO;
            }
            drawn &= ~(1 << c);
            last = last == c ? NONE : last;
            version++;
            return 0;
        }

        int adopt(Sheet sheet, int h, int n) {
            if (!sheet.hasHand(h) || n < 0 || n >= MOST_HABITS) {
                return NOT_THERE;
            }
            setHabit(h, n);
            return 0;
        }

        void setHabit(int h, int n) {
            if (h >= 0 && h < habitsOfHands.length) {
                habitsOfHands[h] = n;
                version++;
            }
        }

        int conceal(Sheet sheet, int c) {
            if (!sheet.hasCell(c)) {
                return NOT_THERE;
            }
            if (isFound() || isDrawn(c)) {
                return NOT_SO;
            }
            spot = c;
            version++;
            return 0;
        }

        /** Does a deed as a tray tells it: 0, or why not. */
        int obey(Sheet sheet, long deed) {
            if (deed < 0 || deed >= HIDES_END || deed >= DRAWS_END && deed < RUBS) {
                return NOT_THERE;
            }
            int v = (int) deed;
            if (v < DRAWS_END) {
                return draw(sheet, v / 100, v % 100);
            }
            if (v < HABITS) {
                return erase(sheet, v - RUBS);
            }
            if (v < HIDES) {
                return adopt(sheet, (v - HABITS) / 10, v % 10);
            }
            return conceal(sheet, v - HIDES);
        }

        void clear() {
            drawn = 0;
            last = NONE;
            spot = NONE;
            Arrays.fill(habitsOfHands, 0);
            version++;
        }
    }

    /** The pages as they were ahead of the latest calls that did some. */
    private static final class History {
        private static final int MOST = 10;

        private final Page[] pages = new Page[MOST];
        private int next = 0;
        int kept = 0;

        History() {
            for (int i = 0; i < pages.length; i++) {
                pages[i] = new Page();
            }
        }

        void keep(Page before) {
            pages[next].copy(before);
            next = (next + 1) % MOST;
            kept = Math.min(MOST, kept + 1);
        }

        void bringBack(int n, Page page) {
            next = Math.floorMod(next - n, MOST);
            kept = Math.max(0, kept - n);
            page.copy(pages[next]);
        }

        void forget() {
            kept = 0;
        }
    }

    private static final class Tray {
        static final int PLACES = 40;

        private final long[] values = new long[PLACES];
        private int sort = 0;
        int size = NONE;

        boolean isMissing() {
            return size == NONE;
        }

        void lay(int newSort, int newSize) {
            Arrays.fill(values, 0L);
            sort = newSort;
            size = Math.max(0, Math.min(newSize, PLACES));
        }

        long at(int i) {
            return i >= 0 && i < size ? values[i] : 0;
        }

        long put(int i, long v) {
            if (i < 0 || i >= size) {
                return 0;
            }
            values[i] = cut(v);
            return values[i];
        }

        private long cut(long v) {
            switch (sort) {
                case 0: return (byte) v;
                case 1: return (short) v;
                case 2: return (int) v;
                default: return v;
            }
        }

        boolean isWithin(int most) {
            for (int i = 0; i < size; i++) {
                if (values[i] < 0 || values[i] > most) {
                    return false;
                }
            }
            return true;
        }
    }

    /** A text cut into tokens ahead of reading, so that the reader's own calls stay few. */
    private static final class Tokens {
        static final int END = 0;
        static final int BAD = 1;
        static final int UNKNOWN = 2;
        static final int SHEET = 200;
        static final int ROW = 201;
        static final int HAND = 202;
        static final int HABIT = 203;
        static final int DRAWN = 204;
        static final int LAST = 205;
        static final int MAY = 206;
        static final int ODDS = 207;
        static final int OR = 208;
        static final int AND = 209;
        static final int NOT = 210;
        static final int CELL = 211;
        static final int KIND = 212;
        static final int NEAR = 213;
        static final int LEFT = 214;
        static final int FAR = 215;
        /** A number's code is this and the number. */
        static final int NUMBER = 1000;

        /** The words by their codes from 200 on, each filled up to five letters. */
        private static final String WORDS =
            "sheetrow  hand habitdrawnlast may  odds or   and  not  cell kind near left far  ";
        private static final int WORD_LETTERS = 5;
        private static final int WORD_COUNT = 16;
        private static final String SIGNS = ";:+-*()[]=<>";
        private static final int MOST_DIGITS = 3;

        private final int[] codes = new int[TAPE_BYTES + 1];
        private final int[] places = new int[TAPE_BYTES + 1];
        private int size = 0;
        private int at = 0;
        /** The token that is looked at now, and where it begins. */
        int code = END;
        int place = 0;

        void open(byte[] text, int n) {
            int end = Math.max(0, Math.min(n, text.length));
            int next = 0;
            size = 0;
            for (int i = 0; i < TAPE_BYTES && next < end; i++) {
                if (text[next] == 10 || text[next] == 32) {
                    next++;
                } else {
                    int stop = tokenEnd(text, next, end);
                    append(codeOf(text, next, stop), next);
                    next = stop;
                }
            }
            append(END, end);
            at = 0;
            code = codes[0];
            place = places[0];
        }

        private void append(int newCode, int newPlace) {
            if (size < codes.length) {
                codes[size] = newCode;
                places[size] = newPlace;
                size++;
            }
        }

        private static int tokenEnd(byte[] text, int from, int end) {
            boolean word = isLetter(text[from]);
            boolean number = isDigit(text[from]);
            int stop = from + 1;
            while (stop < end && (word && isLetter(text[stop]) || number && isDigit(text[stop]))) {
                stop++;
            }
            return stop;
        }

        private static boolean isLetter(byte sign) {
            return sign >= 'a' && sign <= 'z';
        }

        private static boolean isDigit(byte sign) {
            return sign >= '0' && sign <= '9';
        }

        private static int codeOf(byte[] text, int from, int stop) {
            byte sign = text[from];
            if (isLetter(sign)) {
                return wordCode(text, from, stop);
            }
            if (isDigit(sign)) {
                return numberCode(text, from, stop);
            }
            return sign > 0 && SIGNS.indexOf((char) sign) >= 0 ? sign : BAD;
        }

        private static int wordCode(byte[] text, int from, int stop) {
            if (stop - from > WORD_LETTERS) {
                return UNKNOWN;
            }
            for (int w = 0; w < WORD_COUNT; w++) {
                if (isWord(w, text, from, stop)) {
                    return SHEET + w;
                }
            }
            return UNKNOWN;
        }

        private static boolean isWord(int w, byte[] text, int from, int stop) {
            for (int j = 0; j < WORD_LETTERS; j++) {
                int letter = from + j < stop ? text[from + j] : ' ';
                if (WORDS.charAt(w * WORD_LETTERS + j) != letter) {
                    return false;
                }
            }
            return true;
        }

        private static int numberCode(byte[] text, int from, int stop) {
            if (stop - from > MOST_DIGITS) {
                return BAD;
            }
            int number = 0;
            for (int i = from; i < stop; i++) {
                number = number * 10 + (text[i] - '0');
            }
            return NUMBER + number;
        }

        void advance() {
            if (at + 1 < size) {
                at++;
                code = codes[at];
                place = places[at];
            }
        }
    }

    /** Reads a text as the document's grammar tells it; the first fault along the text ends it. */
    private static final class Reader {
        private static final int CAN_NOT_STAND = 2;
        private static final int OUT_OF_BOUNDS = 3;
        private static final int TOO_MANY_OF = 4;
        private static final int MOST_NESTED = 6;
        private static final int MOST_KIND = 8;

        private final Tokens tokens = new Tokens();
        private final int[] kinds = new int[MOST_CELLS];
        private final int[] codes = new int[TAPE_BYTES];
        private int size = 0;
        private boolean inMay = false;
        private int rowCount = 1;
        private int columns = 1;
        private int hands = 0;
        private int lines = 0;
        private Law may = null;
        private Law odds = null;
        int fault = 0;
        int place = NONE;
        /** The page that the text begins with. */
        final Page start = new Page();

        Sheet read(byte[] text, int n) {
            forget();
            tokens.open(text, n);
            head();
            for (int i = 0; i < TAPE_BYTES && fault == 0 && tokens.code != Tokens.END; i++) {
                if (tokens.code == Tokens.MAY) {
                    beginLaw(true);
                    truth(0);
                    may = new Law(codes, size);
                } else if (tokens.code == Tokens.ODDS) {
                    beginLaw(false);
                    sum(0);
                    odds = new Law(codes, size);
                } else {
                    line();
                }
                expect(';');
                lines++;
            }
            return fault == 0 ? new Sheet(rowCount, columns, kinds, hands, lines, may, odds) : null;
        }

        private void forget() {
            fault = 0;
            place = NONE;
            hands = 0;
            lines = 0;
            may = null;
            odds = null;
            Arrays.fill(kinds, 0);
            start.clear();
        }

        private void refuse(int kind) {
            if (fault == 0) {
                fault = tokens.code == Tokens.BAD ? Tokens.BAD : kind;
                place = tokens.place;
            }
        }

        private void expect(int code) {
            if (fault == 0 && tokens.code == code) {
                tokens.advance();
            } else {
                refuse(CAN_NOT_STAND);
            }
        }

        /** A number within its bounds; the lower bound where it is refused. */
        private int number(int least, int most) {
            int value = tokens.code - Tokens.NUMBER;
            if (fault != 0 || value < 0) {
                refuse(CAN_NOT_STAND);
                return least;
            }
            if (value < least || value > most) {
                refuse(OUT_OF_BOUNDS);
                return least;
            }
            tokens.advance();
            return value;
        }

        private void head() {
            expect(Tokens.SHEET);
            rowCount = Math.max(1, number(1, MOST_CELLS));
            columns = number(1, MOST_CELLS / rowCount);
            expect(';');
            lines = 1;
        }

        private void line() {
            switch (tokens.code) {
                case Tokens.ROW: rowLine(); break;
                case Tokens.HAND: handLine(); break;
                case Tokens.DRAWN: drawnLine(); break;
                case Tokens.LAST: start.last = drawnLine(); break;
                default: refuse(CAN_NOT_STAND); break;
            }
        }

        private void rowLine() {
            tokens.advance();
            int first = number(0, rowCount - 1) * columns;
            for (int i = 0; i < columns; i++) {
                int kind = number(0, MOST_KIND);
                if (first + i < kinds.length) {
                    kinds[first + i] = kind;
                }
            }
        }

        private void handLine() {
            if (hands >= MOST_HANDS) {
                refuse(TOO_MANY_OF);
                return;
            }
            tokens.advance();
            for (int i = 0; i < TAPE_BYTES && fault == 0 && tokens.code == Tokens.HABIT; i++) {
                tokens.advance();
                start.setHabit(hands, number(0, MOST_HABITS - 1));
            }
            hands++;
        }

        private int drawnLine() {
            tokens.advance();
            int c = number(0, rowCount * columns - 1);
            start.drawn |= 1 << c;
            return c;
        }

        private void beginLaw(boolean isMay) {
            tokens.advance();
            expect(':');
            size = 0;
            inMay = isMay;
        }

        private void truth(int nested) {
            for (int i = 0; i < TAPE_BYTES && fault == 0; i++) {
                unit(nested);
                for (int j = 0; j < TAPE_BYTES && fault == 0 && tokens.code == Tokens.AND; j++) {
                    tokens.advance();
                    unit(nested);
                    emit(Law.AND);
                }
                if (i > 0) {
                    emit(Law.OR);
                }
                if (tokens.code != Tokens.OR) {
                    return;
                }
                tokens.advance();
            }
        }

        private void unit(int nested) {
            if (tokens.code == Tokens.NOT) {
                if (mayNest(nested)) {
                    unit(nested + 1);
                    emit(Law.NOT);
                }
            } else if (tokens.code == '[') {
                if (mayNest(nested)) {
                    truth(nested + 1);
                    expect(']');
                }
            } else {
                sum(nested);
                int sign = comparison();
                sum(nested);
                emit(sign);
            }
        }

        /** Goes into a not, a bracket, a parenthesis, unless it is one too many. */
        private boolean mayNest(int nested) {
            if (fault != 0 || nested >= MOST_NESTED) {
                refuse(TOO_MANY_OF);
                return false;
            }
            tokens.advance();
            return true;
        }

        private int comparison() {
            int sign = tokens.code == '=' ? Law.EQUAL : tokens.code == '<' ? Law.LESS : Law.GREATER;
            if (sign == Law.GREATER) {
                expect('>');
            } else if (fault == 0) {
                tokens.advance();
            }
            return sign;
        }

        private void sum(int nested) {
            int joint = 0;
            for (int i = 0; i < TAPE_BYTES && fault == 0; i++) {
                atom(nested);
                for (int j = 0; j < TAPE_BYTES && fault == 0 && tokens.code == '*'; j++) {
                    tokens.advance();
                    atom(nested);
                    emit(Law.TIMES);
                }
                if (i > 0) {
                    emit(joint);
                }
                if (tokens.code != '+' && tokens.code != '-') {
                    return;
                }
                joint = tokens.code == '+' ? Law.PLUS : Law.MINUS;
                tokens.advance();
            }
        }

        private void atom(int nested) {
            if (tokens.code == '(') {
                if (mayNest(nested)) {
                    sum(nested + 1);
                    expect(')');
                }
                return;
            }
            int value = tokens.code >= Tokens.NUMBER ? tokens.code - Tokens.NUMBER : fact(tokens.code);
            if (value == NONE) {
                refuse(CAN_NOT_STAND);
                return;
            }
            emit(value);
            tokens.advance();
        }

        /** The code of a word that this law may use, or NONE. */
        private int fact(int word) {
            switch (word) {
                case Tokens.CELL: return Law.FIRST_FACT + Law.CELL;
                case Tokens.KIND: return Law.FIRST_FACT + Law.KIND;
                case Tokens.NEAR: return Law.FIRST_FACT + Law.NEAR;
                case Tokens.LEFT: return Law.FIRST_FACT + Law.LEFT;
                case Tokens.HAND: return inMay ? Law.FIRST_FACT + Law.HAND : NONE;
                case Tokens.HABIT: return inMay ? Law.FIRST_FACT + Law.HABIT : NONE;
                case Tokens.LAST: return inMay ? Law.FIRST_FACT + Law.LAST : NONE;
                case Tokens.FAR: return inMay ? Law.FIRST_FACT + Law.FAR : NONE;
                default: return NONE;
            }
        }

        private void emit(int code) {
            if (size < codes.length) {
                codes[size] = code;
                size++;
            }
        }
    }

    /** Remembers what the law may said of a hand, for it is asked the same thing thousands of times. */
    private static final class Permit {
        private static final int RANKS = MOST_CELLS + 1;

        private final int hand;
        private Sheet sheet;
        private int habit = NONE;
        /** By left and last: of which bits of nearness the law was asked, and for which it holds. */
        private final long[] asked = new long[RANKS * RANKS];
        private final long[] holding = new long[RANKS * RANKS];

        Permit(Sheet blank, int h) {
            sheet = blank;
            hand = h;
        }

        void serve(Sheet newSheet, int newHabit) {
            if (sheet != newSheet || habit != newHabit) {
                sheet = newSheet;
                habit = newHabit;
                Arrays.fill(asked, 0L);
                Arrays.fill(holding, 0L);
            }
        }

        /** The cells that may be drawn, as bits. */
        int open(long nearness, int left, int last) {
            int index = (sheet.leftMatters ? left * RANKS : 0) + (sheet.lastMatters ? last + 1 : 0);
            if (index < 0 || index >= asked.length) {
                return 0;
            }
            long unknown = nearness & ~asked[index];
            if (unknown != 0) {
                learn(index, unknown, left, last);
            }
            long held = nearness & holding[index];
            return (int) (held | held >>> 12 | held >>> 24 | held >>> 36 | held >>> 48) & 4095;
        }

        private void learn(int index, long unknown, int left, int last) {
            for (int bit = 0; bit < 5 * MOST_CELLS; bit++) {
                if ((unknown >>> bit & 1) != 0
                        && sheet.holds(hand, habit, bit % MOST_CELLS, bit / MOST_CELLS, left, last)) {
                    holding[index] |= 1L << bit;
                }
            }
            asked[index] |= unknown;
        }
    }

    /** All rows of one hand, or of two by turns, as a graph of the cells drawn and the last one. */
    private static final class Paths {
        static final int LONGEST = 0;
        static final int STUCK = 1;
        static final int SOONEST = 2;
        static final int SAFEST = 3;
        static final int GAME = 4;
        /** Above every number of strokes and every sum of odds. */
        static final int NEVER = 1 << 20;

        private final Permit[] permits;
        private Sheet sheet;
        private int version = NONE;
        private int first = 0;
        private int second = 0;
        private int from = 0;
        /** How many last cells are told apart: one, if the law doesn't look at them. */
        private int width = 1;
        private int startRank = 0;
        /** How far the place behind a stroke lies from that ahead of it, by the cell drawn. */
        private final int[] leaps = new int[MOST_CELLS];
        /** By the cells drawn: the ranks of last cells with which they can come about, as bits. */
        private int[] arrived = new int[0];
        /** By the cells drawn and the rank of the last one: what may be drawn, and what it is worth. */
        private short[] moves = new short[0];
        private int[] values = new int[0];
        private int aim = NONE;
        private int target = 0;
        private int score = 0;
        private final int[] odds = new int[MOST_CELLS];
        private final int[] steps = new int[MOST_STROKES];
        private int length = 0;
        final long[] totals = new long[MOST_STROKES + 1];
        /** NONE until rows are counted. */
        long stuckRows = NONE;

        Paths(Sheet blank, Permit[] permits) {
            sheet = blank;
            this.permits = permits;
        }

        void begin(Sheet newSheet, Page page, int h, int g) {
            if (version == page.version && first == h && second == g) {
                return;
            }
            sheet = newSheet;
            version = page.version;
            first = h;
            second = g;
            from = page.drawn;
            width = sheet.lastMatters ? sheet.cells + 1 : 1;
            startRank = width == 1 ? 0 : page.last == NONE ? sheet.cells : page.last;
            aim = NONE;
            stuckRows = NONE;
            for (int c = 0; c < sheet.cells; c++) {
                odds[c] = sheet.oddsOf(c, from);
            }
            permits[h].serve(sheet, page.habitOf(h));
            permits[g].serve(sheet, page.habitOf(g));
            makeRoom();
            for (int c = 0; c < leaps.length; c++) {
                leaps[c] = (width << c) + rankOf(c);
            }
            arrived[from] = 1 << startRank;
            for (int mask = from; mask <= sheet.all; mask = (mask + 1) | from) {
                if (arrived[mask] != 0) {
                    spread(mask);
                }
            }
        }

        private void makeRoom() {
            int masks = sheet.all + 1;
            if (arrived.length < masks) {
                arrived = new int[masks];
            }
            if (moves.length < masks * width) {
                moves = new short[masks * width];
                values = new int[masks * width];
            }
            Arrays.fill(arrived, 0);
        }

        private void spread(int mask) {
            Permit permit = permits[strokesTo(mask) % 2 == 0 ? first : second];
            long nearness = sheet.nearness(mask);
            int left = sheet.left(mask);
            int ranks = arrived[mask];
            int drawable = 0;
            for (int rank = 0; rank < width; rank++) {
                if ((ranks >> rank & 1) != 0) {
                    int open = permit.open(nearness, left, rank == sheet.cells ? NONE : rank);
                    moves[mask * width + rank] = (short) open;
                    drawable |= open;
                }
            }
            for (int c = 0; c < sheet.cells; c++) {
                if ((drawable >> c & 1) != 0) {
                    arrived[mask | 1 << c] |= 1 << rankOf(c);
                }
            }
        }

        private int strokesTo(int mask) {
            return Integer.bitCount(mask ^ from);
        }

        private int rankOf(int c) {
            return width == 1 ? 0 : c;
        }

        /** The worth of the start, for a target that is a cell, a number of strokes, or which game. */
        int solve(int newAim, int newTarget) {
            if (aim != newAim || target != newTarget) {
                aim = newAim;
                target = newTarget;
                for (int mask = sheet.all; mask >= from; mask--) {
                    if (arrived[mask] != 0 && !isBeyond(mask)) {
                        settle(mask);
                    }
                }
                score = values[from * width + startRank];
                trace();
            }
            return score;
        }

        /** Whether no row that counts goes through here. */
        private boolean isBeyond(int mask) {
            switch (aim) {
                case LONGEST:
                case SOONEST: return (mask >> target & 1) != 0;
                case SAFEST: return strokesTo(mask) > target;
                default: return false;
            }
        }

        /** Last cells behind which the same ones may be drawn are worth the same: it is worked out once. */
        private void settle(int mask) {
            int ranks = arrived[mask];
            int base = mask * width;
            int open = NONE;
            int value = 0;
            for (int rank = 0; rank < width; rank++) {
                if ((ranks >> rank & 1) != 0) {
                    if (moves[base + rank] != open) {
                        open = moves[base + rank];
                        value = worth(mask, open);
                    }
                    values[base + rank] = value;
                }
            }
        }

        private int worth(int mask, int open) {
            switch (aim) {
                case LONGEST: return most(mask * width, open & ~(1 << target));
                case STUCK: return open == 0 ? 0 : least(mask * width, open);
                case SOONEST: return (open >> target & 1) != 0 ? 1 : least(mask * width, open);
                case SAFEST: return strokesTo(mask) == target ? 0 : least(mask * width, open);
                default: return open == 0 ? 2 * target - 1 : played(mask * width, open);
            }
        }

        private int most(int base, int open) {
            int best = 0;
            for (int c = 0; c < leaps.length && open >> c != 0; c++) {
                if ((open >> c & 1) != 0) {
                    best = Math.max(best, 1 + values[base + leaps[c]]);
                }
            }
            return best;
        }

        private int least(int base, int open) {
            int best = NEVER;
            for (int c = 0; c < leaps.length && open >> c != 0; c++) {
                if ((open >> c & 1) != 0) {
                    best = Math.min(best, (aim == SAFEST ? odds[c] : 1) + values[base + leaps[c]]);
                }
            }
            return best;
        }

        /** One more than the strokes to come, below 0 if who is to draw loses. */
        private int played(int base, int open) {
            int soonestLost = -NEVER;
            int latestWon = 0;
            for (int c = 0; c < leaps.length && open >> c != 0; c++) {
                if ((open >> c & 1) != 0) {
                    int theirs = values[base + leaps[c]];
                    if (theirs < 0) {
                        soonestLost = Math.max(soonestLost, theirs);
                    } else {
                        latestWon = Math.max(latestWon, theirs);
                    }
                }
            }
            return soonestLost > -NEVER ? 1 - soonestLost : -latestWon - 1;
        }

        private void trace() {
            length = 0;
            if (aim == GAME || score >= NEVER) {
                return;
            }
            int mask = from;
            int rank = startRank;
            for (int i = 0; i < steps.length; i++) {
                int c = nextStep(mask, rank);
                if (c == NONE) {
                    return;
                }
                steps[i] = c;
                length = i + 1;
                mask |= 1 << c;
                rank = rankOf(c);
            }
        }

        /** The first cell that a row of the right worth goes on by, or NONE at its end. */
        private int nextStep(int mask, int rank) {
            if (aim == SOONEST && (mask >> target & 1) != 0 || aim == SAFEST && strokesTo(mask) == target) {
                return NONE;
            }
            int base = mask * width;
            int open = moves[base + rank];
            for (int c = 0; c < leaps.length && open >> c != 0; c++) {
                if ((open >> c & 1) != 0 && leads(base, c, values[base + rank])) {
                    return c;
                }
            }
            return NONE;
        }

        private boolean leads(int base, int c, int value) {
            if (c == target && (aim == SOONEST || aim == LONGEST)) {
                return aim == SOONEST;
            }
            return (aim == SAFEST ? odds[c] : 1) + values[base + leaps[c]] == value;
        }

        int step(int i) {
            return i >= 0 && i < length ? steps[i] : NONE;
        }

        /** The first cell that leaves the other hand in a lost game. */
        int firstWinning() {
            int base = from * width;
            int open = moves[base + startRank];
            for (int c = 0; c < leaps.length && open >> c != 0; c++) {
                if ((open >> c & 1) != 0 && values[base + leaps[c]] < 0) {
                    return c;
                }
            }
            return NONE;
        }

        int reached() {
            int met = 0;
            for (int mask = from; mask <= sheet.all; mask = (mask + 1) | from) {
                if (arrived[mask] != 0) {
                    met |= mask;
                }
            }
            return met & ~from;
        }

        /** The cells drawn in all places from which a cell can be drawn, but for those drawn now. */
        int needed(int c) {
            int common = sheet.all;
            boolean any = false;
            for (int mask = from; mask <= sheet.all; mask = (mask + 1) | from) {
                if (arrived[mask] != 0 && opens(mask, c)) {
                    common &= mask;
                    any = true;
                }
            }
            return any ? common & ~from : 0;
        }

        private boolean opens(int mask, int c) {
            for (int rank = 0; rank < width; rank++) {
                if ((arrived[mask] >> rank & 1) != 0 && (moves[mask * width + rank] >> c & 1) != 0) {
                    return true;
                }
            }
            return false;
        }

        /** Counts rows by their strokes; twelve cells have fewer than 2^31 of them. */
        void tally() {
            if (stuckRows != NONE) {
                return;
            }
            aim = NONE;
            stuckRows = 0;
            Arrays.fill(totals, 0L);
            Arrays.fill(values, 0);
            values[from * width + startRank] = 1;
            for (int mask = from; mask <= sheet.all; mask = (mask + 1) | from) {
                if (arrived[mask] != 0) {
                    tallyAt(mask);
                }
            }
        }

        /** Rows that can go on by the same cells are passed on together. */
        private void tallyAt(int mask) {
            int base = mask * width;
            int open = 0;
            int together = 0;
            for (int rank = 0; rank < width; rank++) {
                if ((arrived[mask] >> rank & 1) != 0) {
                    if (moves[base + rank] != open) {
                        passOn(base, open, together);
                        open = moves[base + rank];
                        together = 0;
                    }
                    together += values[base + rank];
                    totals[strokesTo(mask)] += values[base + rank];
                }
            }
            passOn(base, open, together);
        }

        private void passOn(int base, int open, int together) {
            if (open == 0) {
                stuckRows += together;
            }
            for (int c = 0; c < leaps.length && open >> c != 0; c++) {
                if ((open >> c & 1) != 0) {
                    values[base + leaps[c]] += together;
                }
            }
        }
    }

    /** What can be told from cells that were seen drawn one behind the other. */
    private static final class Seen {
        private static final int MOST_SEEN = 12;

        private final Page trial = new Page();
        /** By what was seen: the hands that may have drawn it, as bits. */
        private final int[] able = new int[MOST_SEEN];
        /** By what was seen and the hand that drew it: the fewest changes from there on. */
        private final int[] fewest = new int[MOST_SEEN * MOST_HANDS];
        private final int[] chosen = new int[MOST_SEEN];

        int refusal(Sheet sheet, Page page, Tray tray) {
            if (tray.isMissing()) {
                return TRAY_MISSING;
            }
            if (tray.size < 1 || tray.size > MOST_SEEN) {
                return TOO_MANY;
            }
            int met = page.drawn;
            for (int i = 0; i < tray.size; i++) {
                long c = tray.at(i);
                if (c < 0 || c >= sheet.cells || (met >> c & 1) != 0) {
                    return BAD_NUMBER;
                }
                met |= 1 << c;
            }
            return 0;
        }

        /** The habits by which a hand may have drawn what was seen, as bits. */
        int fitting(Sheet sheet, Page page, Tray tray, int h) {
            int bits = 0;
            for (int n = 0; n < MOST_HABITS; n++) {
                if (fits(sheet, page, tray, h, n)) {
                    bits |= 1 << n;
                }
            }
            return bits;
        }

        private boolean fits(Sheet sheet, Page page, Tray tray, int h, int n) {
            trial.copy(page);
            for (int i = 0; i < tray.size; i++) {
                int c = (int) tray.at(i);
                if (!sheet.allows(h, n, c, trial.drawn, trial.last)) {
                    return false;
                }
                trial.mark(c);
            }
            return true;
        }

        /** The cell that splits the fitting habits most evenly, or NONE. */
        int telling(Sheet sheet, Page page, Tray tray, int h) {
            int bits = fitting(sheet, page, tray, h);
            int most = NONE;
            int cell = NONE;
            for (int c = 0; c < sheet.cells && bits != 0; c++) {
                if (!page.isDrawn(c)) {
                    int lesser = lesserPart(sheet, page, h, c, bits);
                    if (lesser > most) {
                        most = lesser;
                        cell = c;
                    }
                }
            }
            return cell;
        }

        private static int lesserPart(Sheet sheet, Page page, int h, int c, int bits) {
            int may = 0;
            for (int n = 0; n < MOST_HABITS; n++) {
                if ((bits >> n & 1) != 0 && sheet.allows(h, n, c, page.drawn, page.last)) {
                    may++;
                }
            }
            return Math.min(may, Integer.bitCount(bits) - may);
        }

        private void findAble(Sheet sheet, Page page, Tray tray) {
            trial.copy(page);
            for (int i = 0; i < tray.size && i < able.length; i++) {
                int c = (int) tray.at(i);
                able[i] = 0;
                for (int h = 0; h < sheet.hands; h++) {
                    if (sheet.allows(h, page.habitOf(h), c, trial.drawn, trial.last)) {
                        able[i] |= 1 << h;
                    }
                }
                trial.mark(c);
            }
        }

        /** How many rows of hands may have drawn what was seen. */
        long authors(Sheet sheet, Page page, Tray tray) {
            findAble(sheet, page, tray);
            long ways = 1;
            for (int i = 0; i < tray.size && i < able.length; i++) {
                ways *= Integer.bitCount(able[i]);
            }
            return ways;
        }

        int fewestChanges(Sheet sheet, Page page, Tray tray) {
            findAble(sheet, page, tray);
            int size = Math.min(tray.size, able.length);
            for (int i = size - 1; i >= 0; i--) {
                for (int h = 0; h < MOST_HANDS; h++) {
                    boolean may = (able[i] >> h & 1) != 0;
                    fewest[i * MOST_HANDS + h] = !may ? Paths.NEVER : i + 1 == size ? 0 : fewestAfter(i + 1, h);
                }
            }
            int changes = size < 1 ? Paths.NEVER : fewestAfter(0, NONE);
            if (changes >= Paths.NEVER) {
                return NONE;
            }
            chooseAuthors(size);
            return changes;
        }

        /** The fewest changes from a place on, behind a hand (NONE: behind none). */
        private int fewestAfter(int i, int hand) {
            int least = Paths.NEVER;
            for (int h = 0; h < MOST_HANDS; h++) {
                least = Math.min(least, changesBy(i, hand, h));
            }
            return least;
        }

        private int changesBy(int i, int hand, int h) {
            return fewest[i * MOST_HANDS + h] + (hand == NONE || hand == h ? 0 : 1);
        }

        private void chooseAuthors(int size) {
            int hand = NONE;
            for (int i = 0; i < size; i++) {
                int least = fewestAfter(i, hand);
                for (int h = MOST_HANDS - 1; h >= 0; h--) {
                    if (changesBy(i, hand, h) == least) {
                        chosen[i] = h;
                    }
                }
                hand = chosen[i];
            }
        }

        int author(int i) {
            return i >= 0 && i < chosen.length ? chosen[i] : NONE;
        }

        /** The least of the smallest sets of places whose sets together are just these cells, or NONE. */
        int fewestCovering(Tray sets, int cells) {
            int least = NONE;
            int size = MOST_SHEETS + 1;
            for (int places = 0; places < 1 << sets.size; places++) {
                if (Integer.bitCount(places) < size && union(sets, places) == cells) {
                    least = places;
                    size = Integer.bitCount(places);
                }
            }
            return least;
        }

        private static int union(Tray sets, int places) {
            int all = 0;
            for (int i = 0; i < sets.size; i++) {
                if ((places >> i & 1) != 0) {
                    all |= (int) sets.at(i);
                }
            }
            return all;
        }
    }

    /** How likely each cell is drawn in a few strokes, each as likely as the others that may be. */
    private static final class Chances {
        /** Can be divided by whatever number of cells, 1 to 12, may be drawn. */
        private static final long SHARES_A_STROKE = 27720;

        private final Permit[] permits;
        private Sheet sheet = null;
        private int version = NONE;
        private int hand = 0;
        private int strokes = NONE;
        final long[] shares = new long[MOST_CELLS];
        long whole = 1;

        Chances(Permit[] permits) {
            this.permits = permits;
        }

        void begin(Sheet newSheet, Page page, int h, int n) {
            if (version == page.version && hand == h && strokes == n) {
                return;
            }
            sheet = newSheet;
            version = page.version;
            hand = h;
            strokes = n;
            Arrays.fill(shares, 0L);
            whole = 1;
            for (int i = 0; i < n; i++) {
                whole *= SHARES_A_STROKE;
            }
            permits[h].serve(sheet, page.habitOf(h));
            spread(page.drawn, page.last, whole, n);
        }

        private void spread(int drawn, int last, long weight, int n) {
            if (n <= 0 || sheet == null) {
                return;
            }
            int open = permits[hand].open(sheet.nearness(drawn), sheet.left(drawn), last);
            int choices = Integer.bitCount(open);
            if (choices == 0) {
                return;
            }
            for (int c = 0; c < sheet.cells; c++) {
                if ((open >> c & 1) != 0) {
                    shares[c] += weight / choices;
                    spread(drawn | 1 << c, c, weight / choices, n - 1);
                }
            }
        }
    }
}
