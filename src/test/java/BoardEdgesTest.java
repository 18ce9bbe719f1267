/** The sentences of part 1 of the terms and of promises 1 to 3 and 6 to 8 that name a boundary case, one by one. */
public final class BoardEdgesTest {
    private static final int MIN = Integer.MIN_VALUE;
    private static final int MAX = Integer.MAX_VALUE;
    private static final Checks ask = new Checks();

    private static void blank(int w, int h, int shape, int due) {
        MineDesk desk = new MineDesk();
        ask.due("blank(" + w + ", " + h + ", " + shape + ")", desk.blank(w, h, shape), due);
        boolean refused = due < 0;
        ask.due("then count(0)", desk.count(0), refused ? 1 : w);
        ask.due("then count(1)", desk.count(1), refused ? 1 : h);
        ask.due("then count(2)", desk.count(2), refused ? 0 : shape);
    }

    private static void sizes() {
        ask.sentence("Terms", "A BOARD has W columns and H rows (1 to 10 each)");
        ask.sentence("Promise 2", "NUMBER: w or h isn't 1 .. 10");
        for (int side = 1; side <= 10; side++) {
            blank(side, 1, 0, side);
            blank(1, side, 0, side);
            blank(10, side, 1, 10 * side);
            blank(side, 10, 3, 10 * side);
        }
        int[] wrong = {0, 11, 12, -1, -10, 100, 1 << 16, MIN, MAX};
        for (int side : wrong) {
            for (int shape = 0; shape <= 3; shape++) {
                blank(side, 2, shape, MineDesk.NUMBER);
                blank(2, side, shape, MineDesk.NUMBER);
                blank(side, side, shape, MineDesk.NUMBER);
            }
        }
    }

    private static void shapes() {
        ask.sentence("Promise 2", "shape not 0 .. 3");
        for (int shape = 0; shape <= 3; shape++) {
            blank(3, 4, shape, 12);
        }
        int[] wrong = {-1, 4, 5, -2, 7, MIN, MAX};
        for (int shape : wrong) {
            blank(3, 4, shape, MineDesk.NUMBER);
            blank(1, 1, shape, MineDesk.NUMBER);
        }
    }

    private static void evenRows() {
        ask.sentence("Terms", "3 six-sided cells on a ring both ways (H is even then)");
        ask.sentence("Promise 2", "or it is 3 and h is odd");
        for (int w = 1; w <= 10; w++) {
            for (int h = 1; h <= 10; h++) {
                blank(w, h, 3, h % 2 == 0 ? w * h : MineDesk.NUMBER);
            }
        }
        for (int h = 1; h <= 9; h += 2) {
            blank(3, h, 0, 3 * h);
            blank(3, h, 1, 3 * h);
            blank(3, h, 2, 3 * h);
        }
    }

    private static void rowByRow() {
        ask.sentence("Terms", "CELLS are numbered row by row: W times the row and the column");
        MineDesk desk = Checks.board(7, 3, 0);
        ask.neighbours(desk, 18, 10, 11, 12, 17, 19);
        desk = Checks.board(3, 7, 0);
        ask.neighbours(desk, 18, 15, 16, 19);
        desk = Checks.board(10, 2, 0);
        ask.neighbours(desk, 10, 0, 1, 11);
        ask.neighbours(desk, 9, 8, 18, 19);
        desk = Checks.board(2, 10, 0);
        ask.neighbours(desk, 10, 8, 9, 11, 12, 13);
    }

    private static void squares() {
        ask.sentence("Terms", "those at r - 1 .. r + 1, c - 1 .. c + 1 (squares)");
        ask.sentence("Terms", "otherwise what isn't on the BOARD is left out");
        MineDesk desk = Checks.board(4, 3, 0);
        ask.neighbours(desk, 5, 0, 1, 2, 4, 6, 8, 9, 10);
        ask.neighbours(desk, 0, 1, 4, 5);
        ask.neighbours(desk, 3, 2, 6, 7);
        ask.neighbours(desk, 8, 4, 5, 9);
        ask.neighbours(desk, 11, 6, 7, 10);
        ask.neighbours(desk, 1, 0, 2, 4, 5, 6);
        ask.neighbours(desk, 4, 0, 1, 5, 8, 9);
        ask.neighbours(desk, 7, 2, 3, 6, 10, 11);
        ask.neighbours(desk, 9, 4, 5, 6, 8, 10);
        desk = Checks.board(1, 1, 0);
        ask.neighbours(desk, 0);
        desk = Checks.board(10, 1, 0);
        ask.neighbours(desk, 0, 1);
        ask.neighbours(desk, 9, 8);
        desk = Checks.board(1, 10, 0);
        ask.neighbours(desk, 0, 1);
        ask.neighbours(desk, 9, 8);
    }

    private static void ringSquares() {
        ask.sentence("Terms", "On a ring rows are taken modulo H, columns modulo W");
        MineDesk desk = Checks.board(5, 4, 1);
        ask.neighbours(desk, 0, 1, 4, 5, 6, 9, 15, 16, 19);
        ask.neighbours(desk, 4, 0, 3, 5, 8, 9, 15, 18, 19);
        ask.neighbours(desk, 15, 0, 1, 4, 10, 11, 14, 16, 19);
        ask.neighbours(desk, 19, 0, 3, 4, 10, 13, 14, 15, 18);
        ask.neighbours(desk, 2, 1, 3, 6, 7, 8, 16, 17, 18);
        ask.neighbours(desk, 10, 5, 6, 9, 11, 14, 15, 16, 19);
        ask.neighbours(desk, 12, 6, 7, 8, 11, 13, 16, 17, 18);
        desk = Checks.board(10, 10, 1);
        ask.neighbours(desk, 0, 1, 9, 10, 11, 19, 90, 91, 99);
        ask.neighbours(desk, 99, 0, 8, 9, 80, 88, 89, 90, 98);
    }

    private static void sixSided() {
        ask.sentence("Terms", "six-sided, in row r those at c - 1 and c + 1, in rows r - 1 and r + 1 those at c - 1 and c if r is even, "
            + "at c and c + 1 if it is odd");
        MineDesk desk = Checks.board(4, 4, 2);
        ask.neighbours(desk, 9, 4, 5, 8, 10, 12, 13);
        ask.neighbours(desk, 5, 1, 2, 4, 6, 9, 10);
        ask.about("Terms, six-sided, \"otherwise what isn't on the BOARD is left out\"");
        ask.neighbours(desk, 0, 1, 4);
        ask.neighbours(desk, 3, 2, 6, 7);
        ask.neighbours(desk, 12, 8, 9, 13);
        ask.neighbours(desk, 15, 11, 14);
        ask.neighbours(desk, 8, 4, 9, 12);
        ask.neighbours(desk, 7, 3, 6, 11);
        ask.neighbours(desk, 4, 0, 1, 5, 8, 9);
        ask.neighbours(desk, 11, 6, 7, 10, 14, 15);
        desk = Checks.board(3, 3, 2);
        ask.neighbours(desk, 6, 3, 7);
        ask.neighbours(desk, 8, 4, 5, 7);
        desk = Checks.board(1, 3, 2);
        ask.neighbours(desk, 0, 1);
        ask.neighbours(desk, 1, 0, 2);
        ask.neighbours(desk, 2, 1);
    }

    private static void ringSixSided() {
        ask.about("Terms, six-sided, \"On a ring rows are taken modulo H, columns modulo W\"");
        MineDesk desk = Checks.board(4, 4, 3);
        ask.neighbours(desk, 0, 1, 3, 4, 7, 12, 15);
        ask.neighbours(desk, 3, 0, 2, 6, 7, 14, 15);
        ask.neighbours(desk, 12, 0, 1, 8, 9, 13, 15);
        ask.neighbours(desk, 15, 0, 3, 8, 11, 12, 14);
        ask.neighbours(desk, 8, 4, 7, 9, 11, 12, 15);
        ask.neighbours(desk, 7, 0, 3, 4, 6, 8, 11);
        ask.neighbours(desk, 5, 1, 2, 4, 6, 9, 10);
        desk = Checks.board(5, 2, 3);
        ask.neighbours(desk, 0, 1, 4, 5, 9);
        ask.neighbours(desk, 9, 0, 4, 5, 8);
        desk = Checks.board(10, 10, 3);
        ask.neighbours(desk, 0, 1, 9, 10, 19, 90, 99);
        ask.neighbours(desk, 99, 0, 9, 80, 89, 90, 98);
    }

    private static void notItself() {
        ask.sentence("Terms", "No cell is its own NEIGHBOUR");
        ask.neighbours(Checks.board(1, 1, 1), 0);
        ask.neighbours(Checks.board(3, 1, 1), 0, 1, 2);
        ask.neighbours(Checks.board(1, 3, 1), 0, 1, 2);
        ask.neighbours(Checks.board(10, 1, 1), 0, 1, 9);
        ask.neighbours(Checks.board(10, 1, 1), 5, 4, 6);
        ask.neighbours(Checks.board(1, 10, 1), 9, 0, 8);
        ask.neighbours(Checks.board(1, 4, 3), 0, 1, 3);
        ask.neighbours(Checks.board(1, 4, 3), 1, 0, 2);
        MineDesk desk = Checks.board(1, 1, 1, 0);
        ask.due("open(0), a mine alone on its ring", desk.open(0), MineDesk.HIT);
        desk = Checks.board(1, 1, 1);
        ask.due("open(0), alone on its ring", desk.open(0), 0);
    }

    private static void eachOnce() {
        ask.sentence("Terms", "and each counts once");
        ask.neighbours(Checks.board(2, 1, 1), 0, 1);
        ask.neighbours(Checks.board(1, 2, 1), 0, 1);
        ask.neighbours(Checks.board(2, 2, 1), 0, 1, 2, 3);
        ask.neighbours(Checks.board(2, 2, 1), 3, 0, 1, 2);
        ask.neighbours(Checks.board(2, 3, 1), 0, 1, 2, 3, 4, 5);
        ask.neighbours(Checks.board(3, 2, 1), 4, 0, 1, 2, 3, 5);
        ask.neighbours(Checks.board(3, 3, 1), 4, 0, 1, 2, 3, 5, 6, 7, 8);
        ask.neighbours(Checks.board(4, 2, 1), 0, 1, 3, 4, 5, 7);
        ask.neighbours(Checks.board(2, 4, 1), 0, 1, 2, 3, 6, 7);
        ask.neighbours(Checks.board(1, 2, 3), 0, 1);
        ask.neighbours(Checks.board(2, 2, 3), 0, 1, 2, 3);
        ask.neighbours(Checks.board(2, 4, 3), 0, 1, 2, 3, 6, 7);
        ask.neighbours(Checks.board(3, 2, 3), 0, 1, 2, 3, 5);
        ask.about("Terms, \"and each counts once\", in a NUMBER");
        ask.due("open(0), ring of 2 by 1", Checks.board(2, 1, 1, 1).open(0), 1);
        ask.due("open(1), ring of 1 by 2", Checks.board(1, 2, 1, 0).open(1), 1);
        ask.due("open(0), ring of 2 by 2", Checks.board(2, 2, 1, 3).open(0), 1);
        ask.due("open(0), ring of 2 by 2, all else mined", Checks.board(2, 2, 1, 1, 2, 3).open(0), 3);
        ask.due("open(0), six-sided ring of 1 by 2", Checks.board(1, 2, 3, 1).open(0), 1);
        ask.due("open(0), six-sided ring of 2 by 2", Checks.board(2, 2, 3, 2).open(0), 1);
        ask.due("open(4), ring of 3 by 3, all else mined", Checks.board(3, 3, 1, 0, 1, 2, 3, 5, 6, 7, 8).open(4), 8);
    }

    private static void numbers() {
        ask.sentence("Terms", "NUMBER of a cell is how many of its NEIGHBOURS are MINED");
        int[] around = {0, 1, 2, 3, 5, 6, 7, 8};
        for (int n = 0; n <= 8; n++) {
            MineDesk desk = new MineDesk();
            desk.blank(3, 3, 0);
            for (int i = 0; i < n; i++) {
                desk.edit(around[i], true);
            }
            ask.due("open(4), " + n + " mines around it", desk.open(4), n);
            ask.due("shown(4), " + n + " mines around it", desk.shown(4), n);
        }
        ask.due("open(5), six-sided, six mines", Checks.board(4, 4, 2, 1, 2, 4, 6, 9, 10).open(5), 6);
        ask.due("open(5), six-sided, mines beside these", Checks.board(4, 4, 2, 0, 8, 3, 7, 11, 12, 13, 14).open(5), 0);
        ask.due("open(0), mines two steps away", Checks.board(3, 3, 0, 2, 5, 8, 7, 6).open(0), 0);
        ask.due("open(24), a ring, the far corner", Checks.board(5, 5, 1, 0).open(24), 1);
        ask.due("open(24), no ring, the far corner", Checks.board(5, 5, 0, 0).open(24), 0);
    }

    private static void newObject() {
        ask.sentence("Promise 1", "A BOARD of one cell, SHAPE 0, without mines; nothing told, no HINT.");
        String due = "counts 1 1 0 0 0 0 0 0 mended 0 kind 0 reasons told cells 9 back";
        ask.due("a new object is " + due, Portrait.of(new MineDesk()).equals(due), true);
        MineDesk desk = new MineDesk();
        ask.neighbours(desk, 0);
        ask.due("shown(1)", desk.shown(1), MineDesk.NUMBER);
        ask.due("take()", desk.take(), 0);
        ask.due("undo()", desk.undo(), MineDesk.STATE);
        ask.due("solved()", desk.solved(), false);
        ask.due("clicks()", desk.clicks(), 1);
        ask.due("ways()", desk.ways(), 1);
        ask.due("with(0)", desk.with(0), 0);
        ask.due("hint(2)", desk.hint(2), 0);
        ask.due("hint(3)", desk.hint(3), 1);
        ask.due("open(0)", desk.open(0), 0);
        ask.due("solved()", desk.solved(), true);
    }

    private static void blankForgets() {
        ask.sentence("Promise 2", "The BOARD is new, without mines: how many cells.");
        MineDesk desk = Checks.used();
        ask.due("blank(4, 1, 0), as before", desk.blank(4, 1, 0), 4);
        ask.mines(desk);
        ask.shown(desk, "....");
        ask.due("count(5)", desk.count(5), 0);
        ask.sentence("Promise 2", "Moves, the HINT and the told reasons are forgotten.");
        ask.due("count(7)", desk.count(7), 0);
        ask.due("undo()", desk.undo(), MineDesk.STATE);
        ask.reasons(desk, 0, false);
        ask.due("name(false)", desk.name(false), 0);
        ask.due("tell(0, false)", desk.tell(0, false), 0);
        ask.due("tell(3, false)", desk.tell(3, false), 0);
        desk = Checks.board(10, 10, 0, 0, 99);
        desk.open(0);
        desk.open(99);
        desk.flag(50);
        desk.blank(10, 10, 0);
        ask.due("count(3), a BLOWN board ahead of it", desk.count(3), 0);
        ask.due("count(5), a BLOWN board ahead of it", desk.count(5), 0);
        ask.due("count(6), a BLOWN board ahead of it", desk.count(6), 0);
        for (int cell = 0; cell < 100; cell++) {
            ask.due("shown(" + cell + "), a BLOWN board ahead of it", desk.shown(cell), 9);
        }
        desk = Checks.used();
        desk.blank(2, 1, 0);
        desk.blank(4, 1, 0);
        ask.due("tell(3, false), on a smaller board between", desk.tell(3, false), 0);
        ask.due("take(), the hint is forgotten", desk.take(), 0);
    }

    private static void editNumbers() {
        ask.sentence("Promise 3", "NUMBER: there is no such cell");
        for (int cell : Checks.NO_CELLS) {
            MineDesk desk = Checks.board(10, 10, 0, 0);
            ask.due("edit(" + cell + ", true)", desk.edit(cell, true), MineDesk.NUMBER);
            ask.due("edit(" + cell + ", false)", desk.edit(cell, false), MineDesk.NUMBER);
            ask.due("count(3)", desk.count(3), 1);
        }
        MineDesk desk = Checks.board(5, 3, 0);
        ask.due("edit(15, true), 15 cells", desk.edit(15, true), MineDesk.NUMBER);
        ask.due("edit(14, true), 15 cells", desk.edit(14, true), 1);
    }

    private static void editStates() {
        ask.sentence("Promise 3", "STATE: some cell isn't HIDDEN");
        MineDesk desk = Checks.board(3, 1, 0, 1);
        desk.open(0);
        ask.due("edit(2, true), 0 is OPEN", desk.edit(2, true), MineDesk.STATE);
        ask.due("edit(1, false), 0 is OPEN", desk.edit(1, false), MineDesk.STATE);
        desk.undo();
        desk.open(1);
        ask.due("edit(2, true), 1 is BLOWN", desk.edit(2, true), MineDesk.STATE);
        ask.due("edit(1, false), 1 is BLOWN", desk.edit(1, false), MineDesk.STATE);
        desk.undo();
        desk.flag(2);
        ask.due("edit(2, true), FLAGGED, which is HIDDEN", desk.edit(2, true), 2);
        ask.shown(desk, "..F");
        ask.due("count(7), the move stays", desk.count(7), 1);
        ask.due("undo(), it is the flag", desk.undo(), 1);
        ask.shown(desk, "...");
        ask.due("mined(2), it isn't the edit", desk.mined(2), true);
        desk = Checks.board(10, 10, 0, 1);
        desk.open(0);
        ask.due("edit(99, true), only 0 is OPEN", desk.edit(99, true), MineDesk.STATE);
        desk = Checks.board(10, 10, 0, 98);
        desk.open(99);
        ask.due("edit(0, true), only 99 is OPEN", desk.edit(0, true), MineDesk.STATE);
        ask.sentence("Promise 3", "or the cell is so already");
        desk = Checks.board(10, 10, 0, 63, 64);
        int[] cells = {0, 62, 65, 99};
        for (int cell : cells) {
            ask.due("edit(" + cell + ", false)", desk.edit(cell, false), MineDesk.STATE);
        }
        ask.due("edit(63, true)", desk.edit(63, true), MineDesk.STATE);
        ask.due("edit(64, true)", desk.edit(64, true), MineDesk.STATE);
        ask.mines(desk, 63, 64);
    }

    private static void editTotals() {
        ask.sentence("Promise 3", "A cell is MINED, or not any more: TOTAL.");
        MineDesk desk = Checks.board(10, 10, 3);
        for (int cell = 0; cell < 100; cell++) {
            ask.due("edit(" + cell + ", true)", desk.edit(cell, true), cell + 1);
        }
        ask.due("count(3), a full board", desk.count(3), 100);
        for (int cell = 0; cell < 100; cell++) {
            ask.due("edit(" + cell + ", false)", desk.edit(cell, false), 99 - cell);
            ask.due("mined(" + cell + ")", desk.mined(cell), false);
        }
        ask.due("count(3), an empty board", desk.count(3), 0);
    }

    private static void counts() {
        ask.sentence("Promise 6", "What = 0: W, 1 H, 2 SHAPE, 3 TOTAL, 4 OPEN cells, 5 FLAGGED ones, 6 BLOWN ones, "
            + "7 moves that can be taken back");
        // Cells 0 to 11; the mines 0 and 3 are blown and 9 is flagged; 11 is opened alone, with 6, 7 and 10 next to it.
        MineDesk desk = Checks.board(4, 3, 2, 0, 3, 6, 9);
        desk.open(0);
        desk.open(3);
        desk.flag(9);
        desk.flag(5);
        desk.flag(5);
        desk.open(11);
        int[] due = {4, 3, 2, 4, 1, 1, 2, 6};
        for (int what = 0; what < due.length; what++) {
            ask.due("count(" + what + ")", desk.count(what), due[what]);
        }
        desk.open(11);
        desk.open(9);
        desk.flag(0);
        desk.chord(9);
        desk.edit(1, true);
        ask.due("count(7), refused calls are no moves", desk.count(7), 6);
        for (int left = 5; left >= 0; left--) {
            desk.undo();
            ask.due("count(7)", desk.count(7), left);
        }
        desk.undo();
        ask.due("count(7)", desk.count(7), 0);
        ask.sentence("Promise 6", "-1 for another what.");
        int[] wrong = {-1, 8, -2, 9, 10, 100, MIN, MAX};
        for (int what : wrong) {
            ask.due("count(" + what + ")", desk.count(what), -1);
        }
    }

    private static void neighbourNumbers() {
        ask.sentence("Promise 7", "NEIGHBOUR i of a cell, by numbers, from 0 on.");
        MineDesk desk = Checks.board(5, 4, 1);
        int[] due = {1, 4, 5, 6, 9, 15, 16, 19};
        for (int i = 0; i < due.length; i++) {
            ask.due("neighbour(0, " + i + ")", desk.neighbour(0, i), due[i]);
        }
        ask.sentence("Promise 7", "NUMBER: there is no such cell, or none such.");
        int[] wrong = {-1, 8, 9, -8, 800, MIN, MAX};
        for (int i : wrong) {
            ask.due("neighbour(0, " + i + ")", desk.neighbour(0, i), MineDesk.NUMBER);
            ask.due("neighbour(19, " + i + ")", desk.neighbour(19, i), MineDesk.NUMBER);
        }
        ask.due("neighbour(20, 0), 20 cells", desk.neighbour(20, 0), MineDesk.NUMBER);
        for (int cell : Checks.NO_CELLS) {
            ask.due("neighbour(" + cell + ", 0)", desk.neighbour(cell, 0), MineDesk.NUMBER);
            ask.due("neighbour(" + cell + ", -1)", desk.neighbour(cell, -1), MineDesk.NUMBER);
        }
        desk.blank(2, 1, 0);
        ask.due("neighbour(0, 1), which was one on the board before", desk.neighbour(0, 1), MineDesk.NUMBER);
        ask.due("neighbour(2, 0), which was one on the board before", desk.neighbour(2, 0), MineDesk.NUMBER);
    }

    private static void minedNumbers() {
        ask.sentence("Promise 8", "Whether a cell is MINED (false if there is none such).");
        MineDesk desk = new MineDesk();
        desk.blank(10, 10, 0);
        for (int cell = 0; cell < 100; cell++) {
            desk.edit(cell, true);
        }
        for (int cell : Checks.NO_CELLS) {
            ask.due("mined(" + cell + ")", desk.mined(cell), false);
        }
        ask.due("mined(0)", desk.mined(0), true);
        ask.due("mined(99)", desk.mined(99), true);
        desk.open(99);
        ask.due("mined(99), BLOWN", desk.mined(99), true);
        desk.flag(98);
        ask.due("mined(98), FLAGGED", desk.mined(98), true);
        desk.blank(9, 10, 0);
        ask.due("mined(89)", desk.mined(89), false);
        ask.due("mined(90), on a smaller board", desk.mined(90), false);
    }

    public static void main(String[] args) {
        sizes();
        shapes();
        evenRows();
        rowByRow();
        squares();
        ringSquares();
        sixSided();
        ringSixSided();
        notItself();
        eachOnce();
        numbers();
        newObject();
        blankForgets();
        editNumbers();
        editStates();
        editTotals();
        counts();
        neighbourNumbers();
        minedNumbers();
        ask.end();
    }
}
