/** Promises 1 to 8, but for what make() draws, which MakeTest has. */
public final class BoardsTest {
    private static final Checks ask = new Checks();

    private static void newObject() {
        ask.about("promise 1");
        MineDesk desk = new MineDesk();
        int[] counts = {1, 1, 0, 0, 0, 0, 0, 0};
        for (int what = 0; what < counts.length; what++) {
            ask.due("count(" + what + ")", desk.count(what), counts[what]);
        }
        ask.reasons(desk, 0, false);
        ask.shown(desk, ".");
        ask.due("mined(0)", desk.mined(0), false);
        ask.neighbours(desk, 0);
        ask.due("solved()", desk.solved(), false);
        ask.due("undo()", desk.undo(), MineDesk.STATE);
        ask.due("mended()", desk.mended(), 0);
        ask.due("tell(0, false)", desk.tell(0, false), 0);
        ask.due("name(false)", desk.name(false), 0);
        ask.due("take()", desk.take(), 0);
        ask.due("open(0)", desk.open(0), 0);
        ask.due("solved()", desk.solved(), true);
    }

    private static void blankSizes() {
        ask.about("promise 2, sizes");
        MineDesk desk = new MineDesk();
        for (int w = -1; w <= 12; w++) {
            desk = new MineDesk();
            for (int h = -1; h <= 12; h++) {
                for (int shape = -1; shape <= 4; shape++) {
                    boolean fits = w >= 1 && w <= 10 && h >= 1 && h <= 10 && shape >= 0 && shape <= 3;
                    fits &= shape != 3 || h % 2 == 0;
                    String call = "blank(" + w + ", " + h + ", " + shape + ")";
                    ask.due(call, desk.blank(w, h, shape), fits ? w * h : MineDesk.NUMBER);
                }
            }
        }
        ask.due("blank(MIN, MIN, 0)", desk.blank(Integer.MIN_VALUE, Integer.MIN_VALUE, 0), MineDesk.NUMBER);
        ask.due("blank(MAX, 1, 0)", desk.blank(Integer.MAX_VALUE, 1, 0), MineDesk.NUMBER);
        ask.due("count(0), all were refused", desk.count(0), 1);
        ask.due("count(1), all were refused", desk.count(1), 1);
        ask.due("count(2), all were refused", desk.count(2), 0);
    }

    /** A line with a mine, opened and flagged, with a hint and told reasons. */
    private static MineDesk used() {
        MineDesk desk = Checks.board(4, 1, 0, 1);
        desk.open(0);
        desk.hint(1);
        desk.take();
        desk.name(true);
        desk.flag(1);
        return desk;
    }

    private static void blankForgets() {
        ask.about("promise 2, what is forgotten");
        MineDesk desk = used();
        ask.due("blank(3, 3, 3)", desk.blank(3, 3, 3), MineDesk.NUMBER);
        ask.shown(desk, "1F..");
        ask.due("count(7)", desk.count(7), 2);
        ask.reasons(desk, 1, false, 0);
        ask.due("tell(0, true)", desk.tell(0, true), 0);
        ask.due("name(true)", desk.name(true), 0);
        ask.due("blank(4, 1, 0)", desk.blank(4, 1, 0), 4);
        ask.shown(desk, "....");
        ask.mines(desk);
        ask.due("count(5)", desk.count(5), 0);
        ask.due("count(7)", desk.count(7), 0);
        ask.due("undo()", desk.undo(), MineDesk.STATE);
        ask.reasons(desk, 0, false);
        ask.due("tell(0, true)", desk.tell(0, true), 1);
        ask.due("name(true)", desk.name(true), 1);
    }

    private static void edits() {
        ask.about("promise 3");
        MineDesk desk = new MineDesk();
        desk.blank(3, 2, 0);
        ask.due("edit(-1, true)", desk.edit(-1, true), MineDesk.NUMBER);
        ask.due("edit(6, true)", desk.edit(6, true), MineDesk.NUMBER);
        ask.due("edit(0, false)", desk.edit(0, false), MineDesk.STATE);
        ask.due("edit(0, true)", desk.edit(0, true), 1);
        ask.due("edit(5, true)", desk.edit(5, true), 2);
        ask.due("edit(5, true)", desk.edit(5, true), MineDesk.STATE);
        ask.mines(desk, 0, 5);
        ask.due("edit(0, false)", desk.edit(0, false), 1);
        ask.mines(desk, 5);
        ask.due("flag(0)", desk.flag(0), 1);
        ask.due("edit(0, true), flagged", desk.edit(0, true), 2);
        ask.due("undo()", desk.undo(), 1);
        ask.due("shown(0)", desk.shown(0), 9);
        ask.due("mined(0)", desk.mined(0), true);
        ask.due("open(1)", desk.open(1), 2);
        ask.due("edit(2, true), one is open", desk.edit(2, true), MineDesk.STATE);
        ask.due("edit(6, true), one is open", desk.edit(6, true), MineDesk.NUMBER);
        ask.due("undo()", desk.undo(), 1);
        ask.due("edit(2, true)", desk.edit(2, true), 3);
        ask.due("open(2)", desk.open(2), MineDesk.HIT);
        ask.due("edit(1, true), one is blown", desk.edit(1, true), MineDesk.STATE);
        ask.mines(desk, 0, 2, 5);
    }

    private static void editKeepsHint() {
        ask.about("promise 3, the hint stays");
        MineDesk desk = used();
        desk.undo();
        desk.undo();
        ask.due("edit(3, true)", desk.edit(3, true), 2);
        ask.reasons(desk, 1, false, 0);
        ask.due("tell(0, true)", desk.tell(0, true), 0);
    }

    private static void counts() {
        ask.about("promise 6");
        MineDesk desk = Checks.board(5, 2, 2, 0, 4, 9);
        desk.flag(0);
        desk.open(4);
        desk.open(9);
        desk.open(2);
        // 2, 6 and 7 have the number 0, so all but the mines are open.
        int[] due = {5, 2, 2, 3, 7, 1, 2, 4};
        for (int what = 0; what < due.length; what++) {
            ask.due("count(" + what + ")", desk.count(what), due[what]);
        }
        ask.due("count(-1)", desk.count(-1), -1);
        ask.due("count(8)", desk.count(8), -1);
        ask.due("count(MIN)", desk.count(Integer.MIN_VALUE), -1);
        ask.due("count(MAX)", desk.count(Integer.MAX_VALUE), -1);
        desk.undo();
        ask.due("count(7)", desk.count(7), 3);
        ask.due("count(4)", desk.count(4), 0);
    }

    private static void neighbours() {
        ask.about("promise 7, squares");
        MineDesk desk = Checks.board(3, 3, 0);
        ask.neighbours(desk, 0, 1, 3, 4);
        ask.neighbours(desk, 4, 0, 1, 2, 3, 5, 6, 7, 8);
        ask.neighbours(desk, 5, 1, 2, 4, 7, 8);
        ask.due("neighbour(0, -1)", desk.neighbour(0, -1), MineDesk.NUMBER);
        ask.due("neighbour(-1, 0)", desk.neighbour(-1, 0), MineDesk.NUMBER);
        ask.due("neighbour(9, 0)", desk.neighbour(9, 0), MineDesk.NUMBER);
        ask.due("neighbour(0, MAX)", desk.neighbour(0, Integer.MAX_VALUE), MineDesk.NUMBER);
        ask.due("neighbour(MIN, 0)", desk.neighbour(Integer.MIN_VALUE, 0), MineDesk.NUMBER);
        desk.blank(10, 10, 0);
        ask.neighbours(desk, 99, 88, 89, 98);
        ask.neighbours(desk, 64, 53, 54, 55, 63, 65, 73, 74, 75);
        ask.about("promise 7, squares on a ring");
        desk.blank(3, 3, 1);
        ask.neighbours(desk, 0, 1, 2, 3, 4, 5, 6, 7, 8);
        desk.blank(4, 5, 1);
        ask.neighbours(desk, 0, 1, 3, 4, 5, 7, 16, 17, 19);
        desk.blank(1, 10, 1);
        ask.neighbours(desk, 0, 1, 9);
        desk.blank(2, 1, 1);
        ask.neighbours(desk, 0, 1);
        desk.blank(1, 1, 1);
        ask.neighbours(desk, 0);
    }

    private static void sixSided() {
        ask.about("promise 7, six-sided");
        MineDesk desk = Checks.board(4, 4, 2);
        ask.neighbours(desk, 5, 1, 2, 4, 6, 9, 10);
        ask.neighbours(desk, 9, 4, 5, 8, 10, 12, 13);
        ask.neighbours(desk, 8, 4, 9, 12);
        ask.neighbours(desk, 7, 3, 6, 11);
        ask.neighbours(desk, 4, 0, 1, 5, 8, 9);
        desk.blank(1, 3, 2);
        ask.neighbours(desk, 0, 1);
        ask.neighbours(desk, 1, 0, 2);
        ask.about("promise 7, six-sided on a ring");
        desk.blank(4, 4, 3);
        ask.neighbours(desk, 8, 4, 7, 9, 11, 12, 15);
        ask.neighbours(desk, 15, 0, 3, 8, 11, 12, 14);
        desk.blank(1, 2, 3);
        ask.neighbours(desk, 0, 1);
        desk.blank(2, 2, 3);
        ask.neighbours(desk, 0, 1, 2, 3);
        desk.blank(3, 2, 3);
        ask.neighbours(desk, 0, 1, 2, 3, 5);
        ask.neighbours(desk, 3, 0, 1, 4, 5);
    }

    private static void mined() {
        ask.about("promise 8");
        MineDesk desk = Checks.board(10, 10, 0, 0, 63, 64, 99);
        ask.mines(desk, 0, 63, 64, 99);
        ask.due("mined(-1)", desk.mined(-1), false);
        ask.due("mined(100)", desk.mined(100), false);
        ask.due("mined(128)", desk.mined(128), false);
        ask.due("mined(-64)", desk.mined(-64), false);
        desk.open(64);
        ask.due("mined(64), blown", desk.mined(64), true);
        desk.blank(3, 3, 0);
        desk.edit(8, true);
        desk.blank(2, 2, 0);
        ask.due("mined(8), on a smaller board", desk.mined(8), false);
    }

    public static void main(String[] args) {
        newObject();
        blankSizes();
        blankForgets();
        edits();
        editKeepsHint();
        counts();
        neighbours();
        sixSided();
        mined();
        ask.end();
    }
}
