/**
 * A desk for boards with hidden mines: boards are drawn from a number and mended until a reasoner
 * clears them without a guess; players open, flag and take back; hints come with their reasons.
 *
 * All rows are made once, in the constructors, so that no call makes an object.
 */
public final class MineDesk {
    /** A number is none, or none that may be. */
    public static final int NUMBER = -1;
    /** A cell isn't as it must be. */
    public static final int STATE = -2;
    /** The board is too long. */
    public static final int LONG = -3;
    /** There are as many as may be. */
    public static final int FULL = -4;
    /** A mined cell was opened. */
    public static final int HIT = -5;

    private static final int SIDE = 10;
    private static final int CELLS = 100;
    private static final int NEAR = 8;
    private static final int MOVES = 200;
    private static final int MENDINGS = 40;
    private static final int PART = 12;
    private static final int CHECKED = 14;
    private static final int GRADES = 3;
    private static final int MASK = 0x7fffffff;
    private static final long PRIME = 1_000_000_007L;
    /** TOTAL stands in a set of reasons as a number that no cell bears, so that it is joined like a cell. */
    private static final int TOTAL = CELLS;

    private final Board board = new Board();
    private final Moves moves = new Moves();
    private final Placements placements = new Placements();
    private final Reasoner reasoner = new Reasoner(board, placements);
    private final Maker maker = new Maker(reasoner);
    private final Bits hintReasons = new Bits();
    private final Bits told = new Bits();
    private int hintKind;

    public MineDesk() {
        board.start(1, 1, 0);
    }

    // ---- boards

    public int blank(int w, int h, int shape) {
        if (!Grid.fits(w, h, shape)) {
            return NUMBER;
        }
        board.start(w, h, shape);
        forget();
        return board.grid.cells;
    }

    public int edit(int cell, boolean mined) {
        if (!board.grid.holds(cell)) {
            return NUMBER;
        }
        if (board.hidden.size() < board.grid.cells || board.mines.has(cell) == mined) {
            return STATE;
        }
        board.mines.put(cell, mined);
        return board.mines.size();
    }

    public int make(int w, int h, int mines, int shape, int seed, int grade) {
        if (!Grid.fits(w, h, shape) || grade < 1 || grade > GRADES) {
            return NUMBER;
        }
        maker.prepare(w, h, shape);
        if (mines < 0 || mines > maker.room.size()) {
            return NUMBER;
        }
        maker.draw(mines, seed);
        if (!maker.mendToClear(grade)) {
            return 0;
        }
        board.start(w, h, shape);
        board.mines.copy(maker.board.mines);
        forget();
        return 1;
    }

    public int mended() {
        return maker.mendings;
    }

    public int count(int what) {
        switch (what) {
            case 0:
                return board.grid.w;
            case 1:
                return board.grid.h;
            case 2:
                return board.grid.shape;
            case 3:
                return board.mines.size();
            case 4:
                return board.opened.size();
            case 5:
                return board.flags.size();
            case 6:
                return board.blown.size();
            case 7:
                return moves.size;
            default:
                return -1;
        }
    }

    public int neighbour(int cell, int i) {
        if (!board.grid.holds(cell) || i < 0 || i >= board.grid.degree[cell]) {
            return NUMBER;
        }
        return board.grid.near[cell * NEAR + i];
    }

    public boolean mined(int cell) {
        return board.grid.holds(cell) && board.mines.has(cell);
    }

    // ---- play

    public int open(int cell) {
        if (!board.grid.holds(cell)) {
            return NUMBER;
        }
        if (!board.hidden.has(cell) || board.flags.has(cell)) {
            return STATE;
        }
        if (moves.size >= MOVES) {
            return FULL;
        }
        moves.keep(board);
        board.uncover(cell);
        return board.mines.has(cell) ? HIT : board.number(cell);
    }

    public int flag(int cell) {
        if (!board.grid.holds(cell)) {
            return NUMBER;
        }
        if (!board.hidden.has(cell)) {
            return STATE;
        }
        if (moves.size >= MOVES) {
            return FULL;
        }
        moves.keep(board);
        board.flags.put(cell, !board.flags.has(cell));
        return board.flags.has(cell) ? 1 : 0;
    }

    public int chord(int cell) {
        if (!board.grid.holds(cell)) {
            return NUMBER;
        }
        if (!board.opened.has(cell) || board.marked(cell) != board.number(cell)) {
            return STATE;
        }
        if (moves.size >= MOVES) {
            return FULL;
        }
        moves.keep(board);
        int hiddenBefore = board.hidden.size();
        board.uncoverAround(cell);
        return hiddenBefore - board.hidden.size();
    }

    public int undo() {
        return moves.takeBack(board) ? 1 : STATE;
    }

    public int shown(int cell) {
        if (!board.grid.holds(cell)) {
            return NUMBER;
        }
        if (board.opened.has(cell)) {
            return board.number(cell);
        }
        if (board.blown.has(cell)) {
            return 11;
        }
        return board.flags.has(cell) ? 10 : 9;
    }

    public boolean solved() {
        return board.cleared();
    }

    public int clicks() {
        return board.leastOpenings();
    }

    // ---- reasons

    public int hint(int grade) {
        if (grade < 1 || grade > GRADES) {
            return NUMBER;
        }
        forgetHint();
        reasoner.begin(board);
        // Each round but the last gives a verdict to one cell more.
        for (int round = 0; round <= CELLS && reasoner.find(grade); round++) {
            int cell = reasoner.firstNews();
            if (cell >= 0) {
                hintKind = reasoner.rule;
                hintReasons.copy(reasoner.why);
                return 2 * cell + (reasoner.givenMined ? 1 : 0) + 1;
            }
            reasoner.accept();
        }
        return 0;
    }

    public int kind() {
        return hintKind;
    }

    public int reason(int i) {
        return hintReasons.nth(i, CELLS);
    }

    public boolean total() {
        return hintReasons.has(TOTAL);
    }

    public int take() {
        told.copy(hintReasons);
        return told.size() - (told.has(TOTAL) ? 1 : 0);
    }

    public int tell(int cell, boolean on) {
        return board.grid.holds(cell) ? putTold(cell, on) : NUMBER;
    }

    public int name(boolean on) {
        return putTold(TOTAL, on);
    }

    public int check(int cell, int verdict) {
        if (!board.grid.holds(cell) || verdict < 0 || verdict > 1) {
            return NUMBER;
        }
        if (!board.hidden.has(cell)) {
            return STATE;
        }
        if (!placements.studyTold(board, told, cell)) {
            return LONG;
        }
        return placements.fitsOpposite(board, told.has(TOTAL), verdict == 1) ? 0 : 1;
    }

    public int ways() {
        if (!placements.gather(board)) {
            return LONG;
        }
        placements.study(board);
        return placements.countAll(board);
    }

    public int with(int cell) {
        if (!board.grid.holds(cell)) {
            return NUMBER;
        }
        if (!board.hidden.has(cell)) {
            return STATE;
        }
        if (!placements.gather(board)) {
            return LONG;
        }
        placements.study(board);
        return placements.countHolding(board, cell);
    }

    private int putTold(int reason, boolean on) {
        if (told.has(reason) == on) {
            return 0;
        }
        told.put(reason, on);
        return 1;
    }

    private void forget() {
        moves.size = 0;
        told.clear();
        forgetHint();
    }

    private void forgetHint() {
        hintKind = 0;
        hintReasons.clear();
    }

    /** A set of numbers 0 .. 127. Who calls sees to it that a number is one of these. */
    private static final class Bits {
        long lo;
        long hi;

        void clear() {
            lo = 0L;
            hi = 0L;
        }

        void copy(Bits from) {
            lo = from.lo;
            hi = from.hi;
        }

        // A shift takes the lowest six bits of a number alone, so 64 .. 127 need no less.
        boolean has(int i) {
            return ((i < 64 ? lo : hi) >>> i & 1L) != 0L;
        }

        void add(int i) {
            if (i < 64) {
                lo |= 1L << i;
            } else {
                hi |= 1L << i;
            }
        }

        void drop(int i) {
            if (i < 64) {
                lo &= ~(1L << i);
            } else {
                hi &= ~(1L << i);
            }
        }

        void put(int i, boolean on) {
            if (on) {
                add(i);
            } else {
                drop(i);
            }
        }

        void join(Bits other) {
            lo |= other.lo;
            hi |= other.hi;
        }

        void meet(Bits other) {
            lo &= other.lo;
            hi &= other.hi;
        }

        void leave(Bits other) {
            lo &= ~other.lo;
            hi &= ~other.hi;
        }

        /** Joins all numbers of the other set, each larger by a step of 0 .. 63. */
        void joinMoved(Bits other, int step) {
            lo |= other.lo << step;
            hi |= other.hi << step;
            if (step > 0) {
                hi |= other.lo >>> 64 - step;
            }
        }

        int size() {
            return Long.bitCount(lo) + Long.bitCount(hi);
        }

        /** The least number; 128 if there is none. */
        int least() {
            return lo != 0L ? lowest(lo) : 64 + lowest(hi);
        }

        /** Number i of the set among those below a bound; -1 if there is none such. */
        int nth(int i, int bound) {
            int seen = 0;
            for (int n = 0; n < bound; n++) {
                if (has(n)) {
                    if (seen == i) {
                        return n;
                    }
                    seen++;
                }
            }
            return -1;
        }

        static int lowest(long bits) {
            return Long.bitCount((bits & -bits) - 1L);
        }
    }

    /** Which cells there are, and which are neighbours. Who calls sees to it that the sizes and cells fit. */
    private static final class Grid {
        final long[] nearLo = new long[CELLS];
        final long[] nearHi = new long[CELLS];
        final int[] near = new int[CELLS * NEAR];
        final int[] degree = new int[CELLS];
        int w;
        int h;
        int shape;
        int cells;

        static boolean fits(int w, int h, int shape) {
            boolean sized = w >= 1 && w <= SIDE && h >= 1 && h <= SIDE;
            return sized && shape >= 0 && shape <= 3 && (shape != 3 || (h & 1) == 0);
        }

        boolean holds(int cell) {
            return cell >= 0 && cell < cells;
        }

        void lay(int columns, int rows, int form) {
            w = columns;
            h = rows;
            shape = form;
            cells = columns * rows;
            for (int r = 0; r < h; r++) {
                for (int c = 0; c < w; c++) {
                    layCell(r, c);
                }
            }
        }

        private void layCell(int r, int c) {
            int cell = r * w + c;
            nearLo[cell] = 0L;
            nearHi[cell] = 0L;
            degree[cell] = 0;
            boolean six = shape >= 2;
            int from = six ? c - 1 + (r & 1) : c - 1;
            int to = six ? from + 1 : c + 1;
            for (int column = from; column <= to; column++) {
                link(cell, at(r - 1, column));
                link(cell, at(r + 1, column));
            }
            link(cell, at(r, c - 1));
            link(cell, at(r, c + 1));
        }

        /** The cell at a place that is off the board by one at most; -1 if there is none. */
        private int at(int r, int c) {
            boolean ring = (shape & 1) == 1;
            int row = ring ? wrap(r, h) : r;
            int column = ring ? wrap(c, w) : c;
            boolean on = row >= 0 && row < h && column >= 0 && column < w;
            return on ? row * w + column : -1;
        }

        private static int wrap(int place, int length) {
            if (place < 0) {
                return place + length;
            }
            return place >= length ? place - length : place;
        }

        private void link(int cell, int other) {
            if (other < 0 || other == cell || degree[cell] >= NEAR || linked(cell, other)) {
                return;
            }
            int first = cell * NEAR;
            int place = first + degree[cell];
            for (; place > first && near[place - 1] > other; place--) {
                near[place] = near[place - 1];
            }
            near[place] = other;
            degree[cell]++;
            if (other < 64) {
                nearLo[cell] |= 1L << other;
            } else {
                nearHi[cell] |= 1L << other;
            }
        }

        private boolean linked(int cell, int other) {
            return ((other < 64 ? nearLo[cell] : nearHi[cell]) >>> other & 1L) != 0L;
        }

        boolean touches(int cell, Bits set) {
            return (nearLo[cell] & set.lo | nearHi[cell] & set.hi) != 0L;
        }

        int countNear(int cell, Bits set) {
            return Long.bitCount(nearLo[cell] & set.lo) + Long.bitCount(nearHi[cell] & set.hi);
        }
    }

    /** A board: where the mines are, and what became of each cell. Who calls sees to it that a cell is on it. */
    private static final class Board {
        final Grid grid = new Grid();
        final Bits all = new Bits();
        final Bits mines = new Bits();
        final Bits hidden = new Bits();
        final Bits opened = new Bits();
        final Bits blown = new Bits();
        final Bits flags = new Bits();
        private final Bits heaps = new Bits();
        private final int[] queue = new int[CELLS];

        void start(int w, int h, int shape) {
            grid.lay(w, h, shape);
            all.clear();
            for (int cell = 0; cell < grid.cells; cell++) {
                all.add(cell);
            }
            mines.clear();
            hideAll();
        }

        void hideAll() {
            hidden.copy(all);
            opened.clear();
            blown.clear();
            flags.clear();
        }

        int number(int cell) {
            return grid.countNear(cell, mines);
        }

        /** A number less the neighbours that are known to be mined. */
        int due(int cell, Bits known) {
            long lo = grid.nearLo[cell];
            long hi = grid.nearHi[cell];
            return Long.bitCount(lo & mines.lo) + Long.bitCount(hi & mines.hi)
                - Long.bitCount(lo & known.lo) - Long.bitCount(hi & known.hi);
        }

        /** How many mines the blown ones leave to the hidden cells. */
        int minesLeft() {
            return mines.size() - blown.size();
        }

        /** How many neighbours of a cell are flagged or blown. */
        int marked(int cell) {
            return grid.countNear(cell, flags) + grid.countNear(cell, blown);
        }

        boolean cleared() {
            return (hidden.lo & ~mines.lo | hidden.hi & ~mines.hi) == 0L;
        }

        void uncover(int cell) {
            if (mines.has(cell)) {
                hidden.drop(cell);
                blown.add(cell);
                return;
            }
            show(cell);
            queue[0] = cell;
            int tail = 1;
            for (int head = 0; head < tail && head < CELLS; head++) {
                int at = queue[head];
                if (number(at) == 0) {
                    tail = showAround(at, tail);
                }
            }
        }

        private int showAround(int at, int tail) {
            int end = tail;
            for (int i = 0; i < grid.degree[at]; i++) {
                int cell = grid.near[at * NEAR + i];
                if (hidden.has(cell) && end < CELLS) {
                    show(cell);
                    queue[end] = cell;
                    end++;
                }
            }
            return end;
        }

        private void show(int cell) {
            hidden.drop(cell);
            flags.drop(cell);
            opened.add(cell);
        }

        /** A flag only goes as its cell is opened, so none that was there as it began is missed. */
        void uncoverAround(int cell) {
            for (int i = 0; i < grid.degree[cell]; i++) {
                int other = grid.near[cell * NEAR + i];
                if (hidden.has(other) && !flags.has(other)) {
                    uncover(other);
                }
            }
        }

        int leastOpenings() {
            heaps.clear();
            int openings = 0;
            for (int cell = 0; cell < grid.cells; cell++) {
                if (isQuiet(cell) && !heaps.has(cell)) {
                    openings++;
                    heapUp(cell);
                }
            }
            for (int cell = 0; cell < grid.cells; cell++) {
                boolean covered = heaps.has(cell) || grid.touches(cell, heaps);
                if (hidden.has(cell) && !mines.has(cell) && !covered) {
                    openings++;
                }
            }
            return openings;
        }

        private boolean isQuiet(int cell) {
            return hidden.has(cell) && !mines.has(cell) && !grid.touches(cell, mines);
        }

        private void heapUp(int start) {
            heaps.add(start);
            queue[0] = start;
            int tail = 1;
            for (int head = 0; head < tail && head < CELLS; head++) {
                int at = queue[head];
                for (int i = 0; i < grid.degree[at]; i++) {
                    int cell = grid.near[at * NEAR + i];
                    if (isQuiet(cell) && !heaps.has(cell) && tail < CELLS) {
                        heaps.add(cell);
                        queue[tail] = cell;
                        tail++;
                    }
                }
            }
        }
    }

    /** What each move that can be taken back found: open cells, blown ones and flags. */
    private static final class Moves {
        private static final int ROW = 6;
        private final long[] rows = new long[MOVES * ROW];
        int size;

        void keep(Board board) {
            if (size >= MOVES) {
                return;
            }
            int at = size * ROW;
            rows[at] = board.opened.lo;
            rows[at + 1] = board.opened.hi;
            rows[at + 2] = board.blown.lo;
            rows[at + 3] = board.blown.hi;
            rows[at + 4] = board.flags.lo;
            rows[at + 5] = board.flags.hi;
            size++;
        }

        boolean takeBack(Board board) {
            if (size <= 0) {
                return false;
            }
            size--;
            int at = size * ROW;
            board.opened.lo = rows[at];
            board.opened.hi = rows[at + 1];
            board.blown.lo = rows[at + 2];
            board.blown.hi = rows[at + 3];
            board.flags.lo = rows[at + 4];
            board.flags.hi = rows[at + 5];
            board.hidden.copy(board.all);
            board.hidden.leave(board.opened);
            board.hidden.leave(board.blown);
            return true;
        }
    }

    /** Goes over the sets of a few cells that fit the numbers of told open cells. */
    private static final class Search {
        private static final int COUNTS = CHECKED + 1;
        /** Far above the 2^15 branches that 14 cells have. */
        private static final int STEPS = 100_000;
        private final int[] cells = new int[CHECKED];
        private final int[] rules = new int[CHECKED * NEAR];
        private final int[] ruleCount = new int[CHECKED];
        private final int[] maskOf = new int[CELLS];
        private final int[] needOf = new int[CELLS];
        private final int[] found = new int[COUNTS];
        private final int[] holding = new int[CHECKED * COUNTS];
        private int size;

        void clear() {
            size = 0;
        }

        /** Whether there was room. */
        boolean push(int cell) {
            if (size >= CHECKED) {
                return false;
            }
            cells[size] = cell;
            size++;
            return true;
        }

        int size() {
            return size;
        }

        /** How many fitting sets have so many cells. */
        int found(int mines) {
            return mines >= 0 && mines <= size ? found[mines] : 0;
        }

        /** How many of these have the cell that was pushed at a place. */
        int foundHolding(int place, int mines) {
            boolean told = place >= 0 && place < size && mines >= 0 && mines <= size;
            return told ? holding[place * COUNTS + mines] : 0;
        }

        /** Sets the pushed cells under the numbers of the given open cells. */
        void bind(Board board, Bits numbers) {
            Grid grid = board.grid;
            for (int place = 0; place < size; place++) {
                int first = cells[place] * NEAR;
                for (int i = 0; i < grid.degree[cells[place]]; i++) {
                    maskOf[grid.near[first + i]] = 0;
                }
            }
            for (int place = 0; place < size; place++) {
                int first = cells[place] * NEAR;
                int rulesHere = 0;
                for (int i = 0; i < grid.degree[cells[place]]; i++) {
                    int number = grid.near[first + i];
                    if (numbers.has(number)) {
                        maskOf[number] |= 1 << place;
                        needOf[number] = board.due(number, board.blown);
                        rules[place * NEAR + rulesHere] = number;
                        rulesHere++;
                    }
                }
                ruleCount[place] = rulesHere;
            }
        }

        void run() {
            for (int i = 0; i < COUNTS; i++) {
                found[i] = 0;
            }
            for (int i = 0; i < size * COUNTS; i++) {
                holding[i] = 0;
            }
            int set = 0;
            int depth = 0;
            for (int step = 0; step < STEPS; step++) {
                boolean fitting = fits(set, depth);
                if (fitting && depth < size) {
                    depth++;
                    continue;
                }
                if (fitting) {
                    note(set);
                }
                for (; depth > 0 && (set >>> depth - 1 & 1) == 1; depth--) {
                    set &= ~(1 << depth - 1);
                }
                if (depth == 0) {
                    return;
                }
                set |= 1 << depth - 1;
            }
        }

        /** Whether the latest of the cells that are settled leaves its numbers a way to fit. */
        private boolean fits(int set, int settled) {
            if (settled == 0) {
                return true;
            }
            int place = settled - 1;
            for (int i = 0; i < ruleCount[place]; i++) {
                int number = rules[place * NEAR + i];
                int mines = Integer.bitCount(set & maskOf[number]);
                int unsettled = Integer.bitCount(maskOf[number] >>> settled);
                if (mines > needOf[number] || mines + unsettled < needOf[number]) {
                    return false;
                }
            }
            return true;
        }

        private void note(int set) {
            int mines = Integer.bitCount(set);
            found[mines]++;
            for (int place = 0; place < size; place++) {
                if ((set >>> place & 1) == 1) {
                    holding[place * COUNTS + mines]++;
                }
            }
        }
    }

    /** The parts of the border, and the placements that fit what is shown. */
    private static final class Placements {
        private static final int COUNTS = PART + 1;
        final Bits mustBe = new Bits();
        final Bits cannotBe = new Bits();
        private final Search search = new Search();
        private final Bits border = new Bits();
        private final Bits sums = new Bits();
        private final Bits nextSums = new Bits();
        private final int[] order = new int[CELLS];
        private final int[] firstOf = new int[CELLS + 1];
        private final int[] partOf = new int[CELLS];
        private final int[] partCounts = new int[CELLS * COUNTS];
        private final int[] cellCounts = new int[CELLS * COUNTS];
        private final long[] totals = new long[CELLS + 1];
        private final long[] nextTotals = new long[CELLS + 1];
        private final long[] choose = new long[CELLS + 1];
        private int parts;

        /** Finds the parts of the border; false as soon as one is too long. */
        boolean gather(Board board) {
            border.clear();
            parts = 0;
            firstOf[0] = 0;
            for (int cell = 0; cell < board.grid.cells; cell++) {
                boolean fresh = board.hidden.has(cell) && !border.has(cell);
                if (fresh && parts < CELLS && board.grid.touches(cell, board.opened)) {
                    int first = firstOf[parts];
                    int end = spread(board, cell, first);
                    parts++;
                    firstOf[parts] = end;
                    if (end - first > PART) {
                        return false;
                    }
                }
            }
            return true;
        }

        /** Lists the part of a cell from a place on: where it ends. */
        private int spread(Board board, int start, int first) {
            if (first >= CELLS) {
                return first;
            }
            order[first] = start;
            border.add(start);
            int end = first + 1;
            for (int head = first; head < end && head < CELLS; head++) {
                int at = order[head];
                partOf[at] = parts;
                for (int i = 0; i < board.grid.degree[at]; i++) {
                    int number = board.grid.near[at * NEAR + i];
                    if (board.opened.has(number)) {
                        end = listAround(board, number, end);
                    }
                }
            }
            return end;
        }

        private int listAround(Board board, int number, int end) {
            Grid grid = board.grid;
            long lo = grid.nearLo[number] & board.hidden.lo & ~border.lo;
            long hi = grid.nearHi[number] & board.hidden.hi & ~border.hi;
            if ((lo | hi) == 0L) {
                return end;
            }
            int newEnd = end;
            for (int i = 0; i < grid.degree[number]; i++) {
                int cell = grid.near[number * NEAR + i];
                if (board.hidden.has(cell) && !border.has(cell) && newEnd < CELLS) {
                    border.add(cell);
                    order[newEnd] = cell;
                    newEnd++;
                }
            }
            return newEnd;
        }

        /** After gather(): counts the placements of each part, by mines. */
        void study(Board board) {
            for (int part = 0; part < parts; part++) {
                search.clear();
                for (int i = firstOf[part]; i < firstOf[part + 1]; i++) {
                    search.push(order[i]);
                }
                search.bind(board, board.opened);
                search.run();
                keepCounts(part);
            }
        }

        private void keepCounts(int part) {
            for (int mines = 0; mines < COUNTS; mines++) {
                partCounts[part * COUNTS + mines] = search.found(mines);
                for (int i = firstOf[part]; i < firstOf[part + 1]; i++) {
                    int place = i - firstOf[part];
                    cellCounts[order[i] * COUNTS + mines] = search.foundHolding(place, mines);
                }
            }
        }

        /** After study(): which hidden cells are mined in all placements, and which in none. */
        void force(Board board) {
            mustBe.clear();
            cannotBe.clear();
            int left = board.minesLeft();
            int loose = board.hidden.size() - border.size();
            for (int part = 0; part < parts; part++) {
                sumWithout(part);
                forcePart(part, left, loose);
            }
            if (loose > 0) {
                sumWithout(parts);
                forceLoose(board, left, loose);
            }
        }

        private void forcePart(int part, int left, int loose) {
            for (int i = firstOf[part]; i < firstOf[part + 1]; i++) {
                mustBe.add(order[i]);
                cannotBe.add(order[i]);
            }
            for (int mines = 0; mines < COUNTS; mines++) {
                int count = partCounts[part * COUNTS + mines];
                if (count == 0 || !reaches(left - mines, loose)) {
                    continue;
                }
                for (int i = firstOf[part]; i < firstOf[part + 1]; i++) {
                    int holding = cellCounts[order[i] * COUNTS + mines];
                    if (holding > 0) {
                        cannotBe.drop(order[i]);
                    }
                    if (holding < count) {
                        mustBe.drop(order[i]);
                    }
                }
            }
        }

        private void forceLoose(Board board, int left, int loose) {
            Bits forced = nextSums;
            forced.copy(board.hidden);
            forced.leave(border);
            if (!reaches(left - 1, loose - 1)) {
                cannotBe.join(forced);
            }
            if (!reaches(left, loose - 1)) {
                mustBe.join(forced);
            }
        }

        /** Which sums of mines the parts but one can have; exact, as counts modulo a number are not. */
        private void sumWithout(int left) {
            sums.clear();
            sums.add(0);
            for (int part = 0; part < parts; part++) {
                if (part == left) {
                    continue;
                }
                nextSums.clear();
                for (int mines = 0; mines < COUNTS; mines++) {
                    if (partCounts[part * COUNTS + mines] > 0) {
                        nextSums.joinMoved(sums, mines);
                    }
                }
                sums.copy(nextSums);
            }
        }

        /** Whether a sum leaves as many of the mines as the loose cells have room for. */
        private boolean reaches(int mines, int loose) {
            for (int sum = Math.max(0, mines - loose); sum <= mines && sum <= CELLS; sum++) {
                if (sums.has(sum)) {
                    return true;
                }
            }
            return false;
        }

        int countAll(Board board) {
            countWithout(parts);
            chooseFrom(board.hidden.size() - border.size());
            return (int) fill(board.minesLeft());
        }

        int countHolding(Board board, int cell) {
            int loose = board.hidden.size() - border.size();
            int left = board.minesLeft();
            if (!border.has(cell)) {
                countWithout(parts);
                chooseFrom(loose - 1);
                return (int) fill(left - 1);
            }
            countWithout(partOf[cell]);
            chooseFrom(loose);
            long count = 0L;
            for (int mines = 0; mines < COUNTS; mines++) {
                int holding = cellCounts[cell * COUNTS + mines];
                if (holding > 0) {
                    count = (count + holding * fill(left - mines)) % PRIME;
                }
            }
            return (int) count;
        }

        /** Counts the placements of all parts but one, by mines. */
        private void countWithout(int left) {
            startRow(totals);
            for (int part = 0; part < parts; part++) {
                if (part == left) {
                    continue;
                }
                for (int sum = 0; sum <= CELLS; sum++) {
                    nextTotals[sum] = totals[sum];
                }
                for (int sum = 0; sum <= CELLS; sum++) {
                    long count = 0L;
                    for (int mines = 0; mines < COUNTS && mines <= sum; mines++) {
                        count += nextTotals[sum - mines] * partCounts[part * COUNTS + mines] % PRIME;
                    }
                    totals[sum] = count % PRIME;
                }
            }
        }

        /** The ways to choose 0, 1, 2 .. of n cells. */
        private void chooseFrom(int n) {
            startRow(choose);
            for (int row = 1; row <= n && row <= CELLS; row++) {
                for (int k = row; k >= 1; k--) {
                    choose[k] = (choose[k] + choose[k - 1]) % PRIME;
                }
            }
        }

        private static void startRow(long[] row) {
            for (int i = 0; i < row.length; i++) {
                row[i] = i == 0 ? 1L : 0L;
            }
        }

        /** How many placements there are of so many mines on the counted parts and the loose cells. */
        private long fill(int mines) {
            long count = 0L;
            for (int sum = 0; sum <= mines && mines <= CELLS; sum++) {
                count = (count + totals[sum] * choose[mines - sum]) % PRIME;
            }
            return count;
        }

        /** Goes over the sets that fit the told open cells; false if there are too many cells. */
        boolean studyTold(Board board, Bits told, int cell) {
            border.clear();
            border.add(cell);
            search.clear();
            search.push(cell);
            for (int number = 0; number < board.grid.cells; number++) {
                if (told.has(number) && board.opened.has(number) && !pushAround(board, number)) {
                    return false;
                }
            }
            sums.copy(told);
            sums.meet(board.opened);
            search.bind(board, sums);
            search.run();
            return true;
        }

        private boolean pushAround(Board board, int number) {
            for (int i = 0; i < board.grid.degree[number]; i++) {
                int cell = board.grid.near[number * NEAR + i];
                if (board.hidden.has(cell) && !border.has(cell)) {
                    border.add(cell);
                    if (!search.push(cell)) {
                        return false;
                    }
                }
            }
            return true;
        }

        /** After studyTold(): whether some set has the opposite of a verdict on its cell. */
        boolean fitsOpposite(Board board, boolean totalTold, boolean verdictMined) {
            int loose = board.hidden.size() - search.size();
            int left = board.minesLeft();
            for (int mines = 0; mines <= search.size(); mines++) {
                int holding = search.foundHolding(0, mines);
                int opposite = verdictMined ? search.found(mines) - holding : holding;
                boolean counted = mines <= left && left - mines <= loose;
                if (opposite > 0 && (counted || !totalTold)) {
                    return true;
                }
            }
            return false;
        }
    }

    /** Finds, rule by rule, what the shown numbers force. */
    private static final class Reasoner {
        /** The verdicts of the latest rule that gave some: cells, what they are, why, and which rule. */
        final Bits given = new Bits();
        final Bits why = new Bits();
        boolean givenMined;
        int rule;
        private final Placements placements;
        private final long[] whyLo = new long[CELLS];
        private final long[] whyHi = new long[CELLS];
        /** Hidden cells without a verdict. */
        private final Bits free = new Bits();
        /** Cells that are blown or have the verdict mined. */
        private final Bits held = new Bits();
        private Board board;
        /** Whether a verdict of rule 3 holds. */
        private boolean deep;
        /** Whether the placements of the board were looked for since cells were opened, and were found. */
        private boolean studied;
        private boolean studiedWell;

        Reasoner(Board first, Placements shared) {
            board = first;
            placements = shared;
        }

        void begin(Board on) {
            board = on;
            free.copy(on.hidden);
            held.copy(on.blown);
            deep = false;
            studied = false;
        }

        /**
         * Goes on after more cells were opened. Rules 1 and 2 would find all their verdicts again, so
         * these stay; rule 3 might not, as the board may be too long by now.
         */
        void goOn() {
            if (deep) {
                begin(board);
                return;
            }
            free.meet(board.hidden);
            studied = false;
        }

        /** Whether some rule gives verdicts; they stand in given, givenMined, why and rule. */
        boolean find(int grade) {
            int cells = board.grid.cells;
            for (int a = 0; a < cells; a++) {
                if (board.opened.has(a) && giveByOne(a)) {
                    return true;
                }
            }
            for (int a = 0; a < cells && grade >= 2; a++) {
                if (board.opened.has(a) && giveByTwo(a)) {
                    return true;
                }
            }
            if (grade < 3) {
                return false;
            }
            if (!studied) {
                studied = true;
                studiedWell = placements.gather(board);
                if (studiedWell) {
                    placements.study(board);
                    placements.force(board);
                }
            }
            return studiedWell && giveByAll();
        }

        /** The first cell with a verdict that a player doesn't show to know; -1 if there is none. */
        int firstNews() {
            Bits flags = board.flags;
            for (int cell = 0; cell < board.grid.cells; cell++) {
                if (given.has(cell) && !(givenMined && flags.has(cell))) {
                    return cell;
                }
            }
            return -1;
        }

        /** The given verdicts hold from now on. */
        void accept() {
            for (int cell = 0; cell < board.grid.cells; cell++) {
                if (given.has(cell)) {
                    whyLo[cell] = why.lo;
                    whyHi[cell] = why.hi;
                }
            }
            free.leave(given);
            if (givenMined) {
                held.join(given);
            }
            deep = deep || rule == 3;
        }

        private boolean giveByOne(int a) {
            long lo = board.grid.nearLo[a] & free.lo;
            long hi = board.grid.nearHi[a] & free.hi;
            if ((lo | hi) == 0L || !give(lo, hi, board.due(a, held))) {
                return false;
            }
            rule = 1;
            why.clear();
            blame(a);
            return true;
        }

        private boolean giveByTwo(int a) {
            Grid grid = board.grid;
            long lo = grid.nearLo[a] & free.lo;
            long hi = grid.nearHi[a] & free.hi;
            // Only the neighbours of the first of a's cells can have all of them.
            int first = lo != 0L ? Bits.lowest(lo) : 64 + Bits.lowest(hi);
            if (!grid.holds(first)) {
                return false;
            }
            for (int i = 0; i < grid.degree[first]; i++) {
                int b = grid.near[first * NEAR + i];
                long missing = lo & ~grid.nearLo[b] | hi & ~grid.nearHi[b];
                if (missing == 0L && b != a && board.opened.has(b) && giveByPair(a, b)) {
                    return true;
                }
            }
            return false;
        }

        /** Gives the other cells of b their verdict, where b has all of a's. */
        private boolean giveByPair(int a, int b) {
            Grid grid = board.grid;
            long lo = grid.nearLo[b] & free.lo & ~grid.nearLo[a];
            long hi = grid.nearHi[b] & free.hi & ~grid.nearHi[a];
            int mines = board.due(b, held) - board.due(a, held);
            if ((lo | hi) == 0L || !give(lo, hi, mines)) {
                return false;
            }
            rule = 2;
            why.clear();
            blame(a);
            blame(b);
            return true;
        }

        private boolean giveByAll() {
            given.copy(placements.mustBe);
            given.join(placements.cannotBe);
            given.meet(free);
            int cell = given.least();
            if (!board.grid.holds(cell)) {
                return false;
            }
            given.clear();
            given.add(cell);
            givenMined = placements.mustBe.has(cell);
            rule = 3;
            why.clear();
            why.add(TOTAL);
            for (int number = 0; number < board.grid.cells; number++) {
                if (board.opened.has(number) && board.grid.touches(number, board.hidden)) {
                    why.add(number);
                }
            }
            return true;
        }

        /** Gives some cells their verdict if so many mines leave no choice among them. */
        private boolean give(long lo, long hi, int mines) {
            if (mines != 0 && mines != Long.bitCount(lo) + Long.bitCount(hi)) {
                return false;
            }
            given.lo = lo;
            given.hi = hi;
            givenMined = mines != 0;
            return true;
        }

        /** Adds a cell to the reasons, with those of all verdicts of its neighbours. */
        private void blame(int number) {
            why.add(number);
            for (int i = 0; i < board.grid.degree[number]; i++) {
                int cell = board.grid.near[number * NEAR + i];
                if (board.hidden.has(cell) && !free.has(cell)) {
                    why.lo |= whyLo[cell];
                    why.hi |= whyHi[cell];
                }
            }
        }
    }

    /** Draws boards, plays them and mends them, on a board of its own. */
    private static final class Maker {
        /** Far above what a play can need: 100 openings, with a verdict for each cell between two. */
        private static final int STEPS = 20_000;
        final Board board = new Board();
        /** The cells that can be mined and aren't yet. */
        final Bits room = new Bits();
        int mendings;
        private final Reasoner reasoner;
        private int firstCell;

        Maker(Reasoner shared) {
            reasoner = shared;
        }

        void prepare(int w, int h, int shape) {
            board.start(w, h, shape);
            firstCell = (h >> 1) * w + (w >> 1);
            room.copy(board.all);
            room.drop(firstCell);
            for (int i = 0; i < board.grid.degree[firstCell]; i++) {
                room.drop(board.grid.near[firstCell * NEAR + i]);
            }
        }

        void draw(int mines, int seed) {
            int x = seed & MASK;
            for (int i = 0; i < mines; i++) {
                x = 1103515245 * x + 12345 & MASK;
                int many = room.size();
                int cell = many > 0 ? room.nth((x >>> 16) % many, board.grid.cells) : -1;
                if (cell >= 0) {
                    board.mines.add(cell);
                    room.drop(cell);
                }
            }
        }

        /** Mends the board until it can be cleared; false if it is given up. */
        boolean mendToClear(int grade) {
            mendings = 0;
            for (int round = 0; round <= MENDINGS; round++) {
                if (play(grade)) {
                    return true;
                }
                if (round == MENDINGS || !mend()) {
                    return false;
                }
                mendings++;
            }
            return false;
        }

        /** Whether the reasoner clears the board. Flags change no verdict, so none are set. */
        private boolean play(int grade) {
            board.hideAll();
            board.uncover(firstCell);
            reasoner.begin(board);
            for (int step = 0; step < STEPS && !board.cleared(); step++) {
                if (!reasoner.find(grade)) {
                    return false;
                }
                if (reasoner.givenMined) {
                    reasoner.accept();
                } else {
                    int cell = reasoner.firstNews();
                    if (cell < 0) {
                        return false;
                    }
                    board.uncover(cell);
                    reasoner.goOn();
                }
            }
            return board.cleared();
        }

        private boolean mend() {
            int from = -1;
            int to = -1;
            for (int cell = board.grid.cells - 1; cell >= 0; cell--) {
                if (board.hidden.has(cell)) {
                    boolean seen = board.grid.touches(cell, board.opened);
                    boolean mine = board.mines.has(cell);
                    from = mine && seen ? cell : from;
                    to = !mine && !seen ? cell : to;
                }
            }
            if (from < 0 || to < 0) {
                return false;
            }
            board.mines.drop(from);
            board.mines.add(to);
            return true;
        }
    }
}
