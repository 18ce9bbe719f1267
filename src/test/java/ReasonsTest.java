import java.math.BigInteger;

/** Promises 16 to 25. */
public final class ReasonsTest {
    private static final Checks ask = new Checks();

    private static void ruleOne() {
        ask.about("promises 16 to 19, rule 1");
        MineDesk desk = Checks.board(5, 1, 0, 1, 3);
        ask.due("hint(0)", desk.hint(0), MineDesk.NUMBER);
        ask.due("hint(4)", desk.hint(4), MineDesk.NUMBER);
        ask.due("hint(1), all hidden", desk.hint(1), 0);
        desk.open(2);
        ask.due("hint(1)", desk.hint(1), 4);
        ask.reasons(desk, 1, false, 2);
        desk.flag(1);
        ask.due("hint(1), 1 is flagged", desk.hint(1), 8);
        ask.due("hint(0)", desk.hint(0), MineDesk.NUMBER);
        ask.reasons(desk, 1, false, 2);
        desk.flag(3);
        ask.due("hint(1), both are flagged", desk.hint(1), 0);
        ask.reasons(desk, 0, false);
        ask.due("hint(2)", desk.hint(2), 0);
        ask.due("hint(3)", desk.hint(3), 1);
        ask.reasons(desk, 3, true, 2);
        desk.open(0);
        ask.due("hint(3)", desk.hint(3), 9);
        ask.reasons(desk, 3, true, 0, 2);
    }

    private static void chains() {
        ask.about("promises 16 to 19, reasons of reasons");
        MineDesk desk = Checks.board(4, 1, 0, 1);
        desk.open(0);
        desk.open(2);
        ask.due("hint(1)", desk.hint(1), 4);
        ask.reasons(desk, 1, false, 0);
        desk.flag(1);
        ask.due("hint(1)", desk.hint(1), 7);
        ask.reasons(desk, 1, false, 0, 2);
        desk.flag(3);
        ask.due("hint(1), SAFE of a flagged one", desk.hint(1), 7);
        // A blown one counts as a mine, and needs no reason.
        desk = Checks.board(4, 1, 0, 1);
        desk.open(1);
        desk.open(2);
        ask.due("hint(1), a blown one", desk.hint(1), 7);
        ask.reasons(desk, 1, false, 2);
    }

    private static void ruleTwo() {
        ask.about("promises 16 to 19, rule 2");
        MineDesk desk = Checks.board(4, 2, 0, 1);
        desk.open(4);
        desk.open(5);
        ask.due("hint(1)", desk.hint(1), 0);
        ask.due("hint(2)", desk.hint(2), 5);
        ask.reasons(desk, 2, false, 4, 5);
        ask.due("hint(3)", desk.hint(3), 5);
        ask.reasons(desk, 2, false, 4, 5);
        desk = Checks.board(4, 2, 0, 0, 2, 6);
        desk.open(4);
        desk.open(5);
        ask.due("hint(2), MINED", desk.hint(2), 6);
        ask.reasons(desk, 2, false, 4, 5);
        desk.flag(2);
        ask.due("hint(2), 2 is flagged", desk.hint(2), 14);
        desk.flag(6);
        ask.due("hint(2), both are flagged", desk.hint(2), 0);
        ask.due("hint(3)", desk.hint(3), 7);
        ask.reasons(desk, 3, true, 4, 5);
        ask.due("hint(1)", desk.hint(1), 0);
        ask.reasons(desk, 0, false);
    }

    /** A board of 5 by 3 whose one part has 13 cells until the mine at 2 is opened. */
    private static MineDesk longPart() {
        MineDesk desk = Checks.board(5, 3, 0, 2, 7);
        desk.open(6);
        desk.open(8);
        return desk;
    }

    private static void tooLong() {
        ask.about("promises 16, 24 and 25, a part of 13 cells");
        MineDesk desk = longPart();
        ask.due("hint(3)", desk.hint(3), 0);
        ask.reasons(desk, 0, false);
        ask.due("ways()", desk.ways(), MineDesk.LONG);
        ask.due("with(0)", desk.with(0), MineDesk.LONG);
        ask.due("with(6)", desk.with(6), MineDesk.STATE);
        ask.due("with(15)", desk.with(15), MineDesk.NUMBER);
        ask.due("with(-1)", desk.with(-1), MineDesk.NUMBER);
        ask.about("promises 16, 24 and 25, a part of 12 cells");
        ask.due("open(2)", desk.open(2), MineDesk.HIT);
        ask.due("with(2), blown", desk.with(2), MineDesk.STATE);
        ask.due("ways()", desk.ways(), 2);
        ask.due("with(7)", desk.with(7), 1);
        ask.due("with(12)", desk.with(12), 1);
        ask.due("with(0)", desk.with(0), 0);
        ask.due("hint(2)", desk.hint(2), 0);
        ask.due("hint(3)", desk.hint(3), 1);
        ask.reasons(desk, 3, true, 6, 8);
        ask.due("undo()", desk.undo(), 1);
        ask.due("ways()", desk.ways(), MineDesk.LONG);
    }

    private static void hintStays() {
        ask.about("promise 16, how long it stays");
        MineDesk desk = Checks.board(4, 1, 0, 1);
        desk.open(0);
        desk.hint(3);
        desk.flag(1);
        desk.open(2);
        desk.ways();
        desk.check(3, 1);
        desk.tell(3, true);
        desk.name(true);
        desk.make(8, 8, 12, 0, 5, 1);
        desk.make(8, 8, 12, 0, 5, 0);
        desk.blank(0, 0, 0);
        ask.reasons(desk, 1, false, 0);
        desk.make(1, 1, 0, 0, 0, 1);
        ask.reasons(desk, 0, false);
        ask.due("hint(3), a board of one cell", desk.hint(3), 1);
        ask.reasons(desk, 3, true);
        ask.due("take(), TOTAL alone", desk.take(), 0);
        ask.due("name(true)", desk.name(true), 0);
        desk.blank(1, 1, 0);
        ask.reasons(desk, 0, false);
    }

    private static void totalAlone() {
        ask.about("promises 16 and 19, TOTAL alone");
        MineDesk desk = Checks.board(10, 10, 0);
        ask.due("hint(3), no mine", desk.hint(3), 1);
        desk = Checks.board(2, 1, 0, 0, 1);
        ask.due("hint(3), mines alone", desk.hint(3), 2);
        desk.flag(0);
        ask.due("hint(3), 0 is flagged", desk.hint(3), 4);
        ask.reasons(desk, 3, true);
        desk.flag(1);
        ask.due("hint(3), all are flagged", desk.hint(3), 0);
        desk = Checks.board(2, 1, 0, 0);
        ask.due("hint(3), one of two", desk.hint(3), 0);
    }

    private static void onRuleThree() {
        ask.about("promises 16 to 19, rule 1 on rule 3");
        // 4 and 6 have the number 1 each; with two mines none can be at 1 or 5, which both see.
        MineDesk desk = Checks.board(4, 2, 0, 0, 3);
        desk.open(4);
        desk.open(6);
        ask.due("ways()", desk.ways(), 3);
        ask.due("hint(2)", desk.hint(2), 0);
        ask.due("hint(3)", desk.hint(3), 2);
        ask.reasons(desk, 3, true, 4, 6);
        desk.flag(0);
        ask.due("hint(3), 0 is flagged", desk.hint(3), 3);
        ask.reasons(desk, 1, true, 4, 6);
        ask.due("take()", desk.take(), 2);
        ask.due("check(1, 0)", desk.check(1, 0), 1);
        ask.due("name(false)", desk.name(false), 1);
        ask.due("check(1, 0), without TOTAL", desk.check(1, 0), 0);
        ask.about("promises 16 to 19, rule 2 on rule 3");
        desk = Checks.board(4, 2, 0, 0, 1);
        desk.open(4);
        desk.open(6);
        ask.due("hint(3)", desk.hint(3), 2);
        desk.flag(0);
        ask.due("hint(3), 0 is flagged", desk.hint(3), 5);
        ask.reasons(desk, 2, true, 4, 6);
        ask.due("hint(2)", desk.hint(2), 0);
    }

    private static void telling() {
        ask.about("promises 20 to 22");
        MineDesk desk = Checks.board(4, 1, 0, 1);
        ask.due("tell(-1, true)", desk.tell(-1, true), MineDesk.NUMBER);
        ask.due("tell(4, true)", desk.tell(4, true), MineDesk.NUMBER);
        ask.due("tell(100, true)", desk.tell(100, true), MineDesk.NUMBER);
        ask.due("tell(3, true)", desk.tell(3, true), 1);
        ask.due("tell(3, true)", desk.tell(3, true), 0);
        ask.due("tell(3, false)", desk.tell(3, false), 1);
        ask.due("tell(3, false)", desk.tell(3, false), 0);
        ask.due("name(true)", desk.name(true), 1);
        ask.due("name(true)", desk.name(true), 0);
        ask.due("name(false)", desk.name(false), 1);
        ask.due("name(false)", desk.name(false), 0);
        desk.name(true);
        desk.tell(3, true);
        desk.open(0);
        desk.hint(1);
        ask.due("take()", desk.take(), 1);
        ask.due("tell(3, false)", desk.tell(3, false), 0);
        ask.due("tell(0, true)", desk.tell(0, true), 0);
        ask.due("name(false)", desk.name(false), 0);
        desk.flag(1);
        desk.hint(3);
        ask.due("take(), with TOTAL", desk.take(), 1);
        ask.due("name(true)", desk.name(true), 0);
        desk.hint(1);
        ask.due("take(), no hint", desk.take(), 0);
        ask.due("name(false)", desk.name(false), 0);
        ask.due("tell(0, false)", desk.tell(0, false), 0);
    }

    private static void checking() {
        ask.about("promise 23");
        MineDesk desk = Checks.board(4, 1, 0, 1);
        desk.open(0);
        ask.due("check(-1, 0)", desk.check(-1, 0), MineDesk.NUMBER);
        ask.due("check(4, 0)", desk.check(4, 0), MineDesk.NUMBER);
        ask.due("check(1, 2)", desk.check(1, 2), MineDesk.NUMBER);
        ask.due("check(1, -1)", desk.check(1, -1), MineDesk.NUMBER);
        ask.due("check(0, 2), open", desk.check(0, 2), MineDesk.NUMBER);
        ask.due("check(0, 0), open", desk.check(0, 0), MineDesk.STATE);
        ask.due("check(1, 1), nothing told", desk.check(1, 1), 0);
        desk.tell(0, true);
        ask.due("check(1, 1)", desk.check(1, 1), 1);
        ask.due("check(1, 0)", desk.check(1, 0), 0);
        ask.due("check(2, 0)", desk.check(2, 0), 0);
        desk.name(true);
        ask.due("check(2, 0), TOTAL", desk.check(2, 0), 1);
        ask.due("check(2, 1), TOTAL", desk.check(2, 1), 0);
        desk.tell(0, false);
        desk.tell(2, true);
        ask.due("check(1, 1), a told hidden cell", desk.check(1, 1), 0);
        desk.undo();
        desk.open(1);
        ask.due("check(1, 1), blown", desk.check(1, 1), MineDesk.STATE);
        ask.due("check(3, 0), no mine is left", desk.check(3, 0), 1);
        desk.name(false);
        ask.due("check(3, 0), but TOTAL isn't told", desk.check(3, 0), 0);
        desk.open(2);
        ask.due("check(3, 0), beside a blown one", desk.check(3, 0), 1);
        desk.flag(3);
        ask.due("check(3, 0), flagged", desk.check(3, 0), 1);
    }

    private static void checkAllMines() {
        ask.about("promise 23, TOTAL leaves no room");
        MineDesk desk = Checks.board(3, 1, 0, 0, 1, 2);
        ask.due("check(0, 1)", desk.check(0, 1), 0);
        desk.name(true);
        ask.due("check(0, 1)", desk.check(0, 1), 1);
        ask.due("check(0, 0)", desk.check(0, 0), 0);
        desk = Checks.board(3, 1, 0, 0, 1);
        desk.name(true);
        ask.due("check(2, 0), truth isn't force", desk.check(2, 0), 0);
        ask.due("check(0, 1), truth isn't force", desk.check(0, 1), 0);
    }

    private static void checkLong() {
        ask.about("promise 23, 14 cells and 15");
        MineDesk desk = Checks.board(6, 3, 0, 8, 10);
        desk.open(7);
        desk.open(9);
        desk.tell(7, true);
        desk.tell(9, true);
        ask.due("check(5, 0), 14 cells", desk.check(5, 0), 0);
        desk.open(11);
        ask.due("check(5, 0), 11 isn't told", desk.check(5, 0), 0);
        desk.tell(11, true);
        ask.due("check(5, 0), 15 cells", desk.check(5, 0), MineDesk.LONG);
        ask.due("check(0, 0), 15 cells", desk.check(0, 0), MineDesk.LONG);
        ask.due("check(7, 0)", desk.check(7, 0), MineDesk.STATE);
        ask.due("check(18, 0)", desk.check(18, 0), MineDesk.NUMBER);
        desk.undo();
        ask.due("check(0, 0), 11 isn't open", desk.check(0, 0), 0);
        desk.open(5);
        desk.tell(5, true);
        ask.due("check(0, 0), 14 cells", desk.check(0, 0), 0);
        ask.due("check(17, 0), 15 cells", desk.check(17, 0), MineDesk.LONG);
    }

    private static void checkAllMined() {
        ask.about("promise 23, 13 and 14 mines");
        MineDesk desk = Checks.board(6, 3, 0, 0, 1, 2, 3, 4, 5, 6, 8, 10, 11, 12, 13, 14, 15, 16, 17);
        ask.due("open(7)", desk.open(7), 8);
        ask.due("open(9)", desk.open(9), 8);
        desk.tell(7, true);
        desk.tell(9, true);
        ask.due("check(16, 1)", desk.check(16, 1), 1);
        ask.due("check(16, 0)", desk.check(16, 0), 0);
        ask.due("check(5, 1)", desk.check(5, 1), 0);
        ask.due("check(5, 0)", desk.check(5, 0), 0);
        desk.name(true);
        ask.due("check(5, 1), TOTAL", desk.check(5, 1), 1);
        ask.due("check(5, 0), TOTAL", desk.check(5, 0), 0);
    }

    /** Nine open cells with eight mines around each, and 19 cells besides. */
    private static void manyMines() {
        ask.about("promises 16, 24 and 25, 72 mines");
        MineDesk desk = Checks.board(10, 10, 0);
        for (int cell = 0; cell < 100; cell++) {
            boolean around = cell / 10 < 9 && cell % 10 < 9;
            boolean middle = cell / 10 % 3 == 1 && cell % 10 % 3 == 1;
            if (around && !middle) {
                desk.edit(cell, true);
                desk.flag(cell);
            }
        }
        ask.due("count(3)", desk.count(3), 72);
        for (int r = 1; r < 9; r += 3) {
            for (int c = 1; c < 9; c += 3) {
                ask.due("open()", desk.open(10 * r + c), 8);
            }
        }
        ask.due("with(9)", desk.with(9), 0);
        ask.due("with(0)", desk.with(0), 1);
        ask.due("ways()", desk.ways(), 1);
        ask.due("hint(2)", desk.hint(2), 0);
        ask.due("hint(3)", desk.hint(3), 19);
        ask.reasons(desk, 3, true, 11, 14, 17, 41, 44, 47, 71, 74, 77);
    }

    /** 13, 16 and 23 see a mine each, at 17 or at 14, 15 and 24; 0 is apart; all else is blown. */
    private static MineDesk oneOrThree(int... mines) {
        MineDesk desk = Checks.board(5, 5, 0, mines);
        for (int cell = 0; cell < 25; cell++) {
            boolean kept = cell == 0 || cell >= 13 && cell <= 17 || cell >= 23;
            if (!kept) {
                desk.edit(cell, true);
            }
        }
        for (int cell = 0; cell < 25; cell++) {
            boolean kept = cell == 0 || cell >= 13 && cell <= 17 || cell >= 23;
            if (!kept || cell == 13 || cell == 16 || cell == 23) {
                desk.open(cell);
            }
        }
        return desk;
    }

    private static void sumsWithGaps() {
        ask.about("promise 16, one mine or three");
        MineDesk desk = oneOrThree(14, 15, 24);
        ask.due("hint(2)", desk.hint(2), 0);
        ask.due("hint(3), three", desk.hint(3), 1);
        ask.reasons(desk, 3, true, 13, 16, 23);
        ask.due("ways()", desk.ways(), 1);
        desk = oneOrThree(0, 17);
        ask.due("hint(2)", desk.hint(2), 0);
        ask.due("hint(3), one", desk.hint(3), 2);
        ask.reasons(desk, 3, true, 13, 16, 23);
        ask.due("with(0)", desk.with(0), 1);
        desk = oneOrThree(17);
        ask.due("hint(3), one, and none apart", desk.hint(3), 1);
        desk = oneOrThree(0, 14, 15, 24);
        ask.due("hint(3), three, and one apart", desk.hint(3), 2);
    }

    private static int choose(int n, int k) {
        BigInteger ways = BigInteger.ONE;
        for (int i = 1; i <= k; i++) {
            ways = ways.multiply(BigInteger.valueOf(n - k + i)).divide(BigInteger.valueOf(i));
        }
        return ways.mod(BigInteger.valueOf(1_000_000_007L)).intValueExact();
    }

    private static void counting() {
        ask.about("promises 24 and 25");
        MineDesk desk = new MineDesk();
        ask.due("ways(), one cell", desk.ways(), 1);
        ask.due("with(0), one cell", desk.with(0), 0);
        desk.edit(0, true);
        ask.due("with(0), one mine", desk.with(0), 1);
        desk.open(0);
        ask.due("ways(), nothing hidden", desk.ways(), 1);
        int[] mines = new int[50];
        for (int i = 0; i < 50; i++) {
            mines[i] = 2 * i;
        }
        desk = Checks.board(10, 10, 0, mines);
        ask.due("ways(), 50 of 100", desk.ways(), choose(100, 50));
        ask.due("ways(), 50 of 100", desk.ways(), 538992043);
        ask.due("with(99), 50 of 100", desk.with(99), choose(99, 49));
        desk.open(0);
        ask.due("ways(), a blown one", desk.ways(), choose(99, 49));
        ask.due("with(1), a blown one", desk.with(1), choose(98, 48));
        desk.flag(1);
        ask.due("with(1), flagged", desk.with(1), choose(98, 48));
    }

    private static void countingEdges() {
        ask.about("promises 24 and 25, without another count ahead");
        MineDesk desk = Checks.board(10, 1, 0, 0, 4, 5, 9);
        desk.open(1);
        desk.open(8);
        ask.due("with(0)", desk.with(0), 12);
        desk.undo();
        ask.due("with(0)", desk.with(0), choose(7, 3));
        desk.undo();
        ask.due("with(0)", desk.with(0), choose(9, 3));
        desk = Checks.board(10, 10, 2);
        for (int cell = 0; cell < 100; cell++) {
            desk.edit(cell, true);
        }
        ask.due("ways(), 100 of 100", desk.ways(), 1);
        ask.due("with(99), 100 of 100", desk.with(99), 1);
        ask.due("hint(3)", desk.hint(3), 2);
        desk.edit(99, false);
        ask.due("ways(), 99 of 100", desk.ways(), 100);
        ask.due("with(99), 99 of 100", desk.with(99), 99);
        desk = Checks.board(10, 10, 1);
        ask.due("ways(), 0 of 100", desk.ways(), 1);
        ask.due("with(0), 0 of 100", desk.with(0), 0);
    }

    private static void countingParts() {
        ask.about("promises 24 and 25, two parts");
        // 0 and 2 about 1; 7 and 9 about 8; 3 to 6 are loose; 4 mines in all.
        MineDesk desk = Checks.board(10, 1, 0, 0, 4, 5, 9);
        desk.open(1);
        desk.open(8);
        ask.due("ways()", desk.ways(), 2 * 2 * 6);
        ask.due("with(0)", desk.with(0), 2 * 6);
        ask.due("with(2)", desk.with(2), 2 * 6);
        ask.due("with(7)", desk.with(7), 2 * 6);
        ask.due("with(4)", desk.with(4), 2 * 2 * 3);
        ask.due("with(1)", desk.with(1), MineDesk.STATE);
        ask.due("with(10)", desk.with(10), MineDesk.NUMBER);
    }

    public static void main(String[] args) {
        ruleOne();
        chains();
        ruleTwo();
        tooLong();
        hintStays();
        totalAlone();
        onRuleThree();
        telling();
        checking();
        checkAllMines();
        checkLong();
        checkAllMined();
        manyMines();
        sumsWithGaps();
        counting();
        countingEdges();
        countingParts();
        ask.end();
    }
}
