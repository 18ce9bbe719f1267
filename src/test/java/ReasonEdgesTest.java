import java.math.BigInteger;

/** The sentences of part 3 of the terms and of promises 20 to 25 that name a boundary case, one by one. */
public final class ReasonEdgesTest {
    private static final int MIN = Integer.MIN_VALUE;
    private static final int MAX = Integer.MAX_VALUE;
    private static final Checks ask = new Checks();

    private static void told(MineDesk desk, boolean total, int... cells) {
        desk.name(total);
        for (int cell : cells) {
            desk.tell(cell, true);
        }
    }

    private static int choose(int n, int k) {
        return product(BigInteger.ONE, n, k);
    }

    /** So many times the ways to choose k of n, by the modulus. */
    private static int product(BigInteger times, int n, int k) {
        BigInteger ways = times;
        for (int i = 1; i <= k; i++) {
            ways = ways.multiply(BigInteger.valueOf(n - k + i));
        }
        for (int i = 1; i <= k; i++) {
            ways = ways.divide(BigInteger.valueOf(i));
        }
        return ways.mod(BigInteger.valueOf(1_000_000_007L)).intValueExact();
    }

    /** A board so many columns wide, of three rows, the first of them mined, the one in the middle open. */
    private static MineDesk open3(int w) {
        MineDesk desk = new MineDesk();
        desk.blank(w, 3, 0);
        for (int cell = 0; cell < w; cell++) {
            desk.edit(cell, true);
        }
        for (int cell = w; cell < 2 * w; cell++) {
            desk.open(cell);
        }
        return desk;
    }

    private static void partLong() {
        ask.sentence("Terms", "The BOARD is TOO LONG if a PART has more than 12 cells.");
        // Each column has one mine, above or below.
        MineDesk desk = open3(6);
        ask.due("ways(), 12 cells", desk.ways(), 64);
        ask.due("with(0), 12 cells", desk.with(0), 32);
        desk = open3(7);
        ask.due("ways(), 14 cells", desk.ways(), MineDesk.LONG);
        desk.open(0);
        ask.due("ways(), 13 cells", desk.ways(), MineDesk.LONG);
        ask.due("with(6), 13 cells", desk.with(6), MineDesk.LONG);
        desk.open(1);
        ask.due("ways(), 12 cells", desk.ways(), 32);
        ask.due("with(14), 12 cells", desk.with(14), 0);
        ask.due("with(2), 12 cells", desk.with(2), 16);
        desk.flag(2);
        ask.due("ways(), FLAGGED is HIDDEN", desk.ways(), 32);
        desk.undo();
        desk.undo();
        desk.flag(2);
        ask.due("ways(), 13 cells, one FLAGGED", desk.ways(), MineDesk.LONG);
        ask.due("ways(), 20 cells", open3(10).ways(), MineDesk.LONG);
        ask.sentence("Terms", "The BORDER: HIDDEN cells that have an OPEN NEIGHBOUR.");
        desk = Checks.board(10, 10, 0, 50);
        ask.due("ways(), 100 HIDDEN cells and none OPEN", desk.ways(), 100);
        desk.open(50);
        ask.due("ways(), 99 HIDDEN cells and a BLOWN one", desk.ways(), 1);
        // Four rows below are no border.
        desk = new MineDesk();
        desk.blank(6, 7, 0);
        for (int cell = 0; cell < 6; cell++) {
            desk.edit(cell, true);
        }
        Checks.opened(desk, 6, 7, 8, 9, 10, 11);
        ask.due("ways(), 12 cells and 24 apart", desk.ways(), 64);
        ask.due("with(41), 12 cells and 24 apart", desk.with(41), 0);
    }

    /** Two rows of open cells with a mined row above each, in a board of 6 columns. */
    private static MineDesk twoRows(int h, int first, int second) {
        MineDesk desk = new MineDesk();
        desk.blank(6, h, 0);
        for (int c = 0; c < 6; c++) {
            desk.edit(6 * (first - 1) + c, true);
            desk.edit(6 * (second - 1) + c, true);
        }
        for (int c = 0; c < 6; c++) {
            desk.open(6 * first + c);
            desk.open(6 * second + c);
        }
        return desk;
    }

    private static void partsApart() {
        ask.sentence("Terms", "each two that follow each other have an OPEN NEIGHBOUR in common");
        MineDesk desk = twoRows(7, 1, 5);
        ask.due("ways(), two parts of 12 cells", desk.ways(), 4096);
        ask.due("with(0), two parts of 12 cells", desk.with(0), 2048);
        ask.due("with(18), apart", desk.with(18), 0);
        ask.due("hint(3), apart", desk.hint(3), 37);
        ask.reasons(desk, 3, true, 6, 7, 8, 9, 10, 11, 30, 31, 32, 33, 34, 35);
        desk = twoRows(6, 1, 4);
        ask.due("ways(), two parts side by side", desk.ways(), 4096);
        ask.due("with(12), two parts side by side", desk.with(12), 2048);
        desk = twoRows(5, 1, 3);
        ask.due("ways(), one part of 18 cells", desk.ways(), MineDesk.LONG);
        // On a ring the rows at both ends are side by side: 5 and 0 have no OPEN NEIGHBOUR in common, 4 and 0 of five rows have.
        desk = Checks.opened(Checks.board(10, 1, 1, 0, 5), 1, 4);
        ask.due("ways(), 0, 2 and 3, 5", desk.ways(), 4);
        desk = Checks.opened(Checks.board(10, 1, 1, 0, 5), 1, 9);
        ask.due("ways(), 0, 2 and 0, 8", desk.ways(), 5 + 1);
        ask.about("Terms, a part that is too long, ahead of a short one and behind it");
        desk = Checks.opened(Checks.board(5, 8, 0, 2, 7, 36), 6, 8, 35);
        ask.due("ways(), the long one ahead", desk.ways(), MineDesk.LONG);
        ask.due("with(36), the long one ahead", desk.with(36), MineDesk.LONG);
        desk = Checks.opened(Checks.board(5, 8, 0, 1, 32, 27), 0, 31, 33);
        ask.due("ways(), the long one behind", desk.ways(), MineDesk.LONG);
        ask.due("with(1), the long one behind", desk.with(1), MineDesk.LONG);
        ask.due("with(15), the long one behind", desk.with(15), MineDesk.LONG);
    }

    private static void sets() {
        ask.sentence("Terms", "WITH a cell: how many of these have it.");
        // 0 and 2 have one mine, 7 and 9 have one, and two are left to the cells apart.
        MineDesk desk = Checks.opened(Checks.board(10, 1, 0, 0, 4, 5, 9), 1, 8);
        ask.due("ways()", desk.ways(), 2 * 2 * 6);
        ask.due("with(0)", desk.with(0), 2 * 6);
        ask.due("with(9)", desk.with(9), 2 * 6);
        ask.due("with(4)", desk.with(4), 2 * 2 * 3);
        // One mine among 1, 7 and 8, and two at 5 and 6, so that none is left to 4 and 11, nor to the cells apart.
        desk = Checks.opened(Checks.board(7, 2, 0, 5, 6, 7), 0, 12, 13);
        ask.due("ways(), different parts", desk.ways(), 3);
        int[] due = {MineDesk.STATE, 1, 0, 0, 0, 3, 3, 1, 1, 0, 0, 0, MineDesk.STATE, MineDesk.STATE};
        for (int cell = 0; cell < due.length; cell++) {
            ask.due("with(" + cell + "), different parts", desk.with(cell), due[cell]);
        }
        // The same the other way round.
        desk = Checks.opened(Checks.board(7, 2, 0, 6, 7, 8), 13, 0, 1);
        ask.due("ways(), different parts", desk.ways(), 3);
        int[] turned = {MineDesk.STATE, MineDesk.STATE, 0, 0, 0, 1, 1, 3, 3, 0, 0, 0, 1, MineDesk.STATE};
        for (int cell = 0; cell < turned.length; cell++) {
            ask.due("with(" + cell + "), different parts", desk.with(cell), turned[cell]);
        }
        // 12 mines of 12 cells.
        desk = Checks.board(6, 4, 0, 0, 1, 2, 3, 4, 5, 12, 13, 14, 15, 16, 17, 20);
        Checks.opened(desk, 6, 7, 8, 9, 10, 11);
        ask.due("ways(), 12 mines of 12 cells", desk.ways(), 6);
        ask.due("with(17), 12 mines of 12 cells", desk.with(17), 6);
        ask.due("with(18), 12 mines of 12 cells", desk.with(18), 1);
    }

    private static void modulus() {
        ask.sentence("Terms", "modulo 1,000,000,007");
        int[] mines = new int[18];
        for (int i = 0; i < 18; i++) {
            mines[i] = i;
        }
        MineDesk desk = Checks.opened(Checks.board(5, 7, 0, mines), 0);
        ask.due("ways(), 2333606220", desk.ways(), 333606206);
        ask.due("with(34), 1166803110", desk.with(34), 166803103);
        desk.open(1);
        ask.due("ways(), 1166803110", desk.ways(), 166803103);
        ask.due("with(34), 565722720", desk.with(34), 565722720);
        desk.open(2);
        ask.due("ways(), 565722720", desk.ways(), 565722720);
        int[] even = new int[50];
        for (int i = 0; i < 50; i++) {
            even[i] = 2 * i;
        }
        desk = Checks.board(10, 10, 0, even);
        ask.due("ways(), 50 of 100", desk.ways(), choose(100, 50));
        ask.due("with(0), 50 of 100", desk.with(0), choose(99, 49));
        ask.due("open(1)", desk.open(1), 4);
        ask.due("ways(), 4 of 5 and 46 of 94", desk.ways(), product(BigInteger.valueOf(5), 94, 46));
        ask.due("with(0), 3 of 4 and 46 of 94", desk.with(0), product(BigInteger.valueOf(4), 94, 46));
        ask.due("with(99), 4 of 5 and 45 of 93", desk.with(99), product(BigInteger.valueOf(5), 93, 45));
    }

    private static void takes() {
        ask.sentence("Promise 20", "The told reasons become those of the latest HINT (none, if there was none): how many cells.");
        MineDesk desk = Checks.opened(Checks.board(4, 1, 0, 1), 0);
        told(desk, true, 2, 3);
        ask.due("take(), no hint", desk.take(), 0);
        ask.due("name(false), TOTAL went", desk.name(false), 0);
        ask.due("tell(2, false), it went", desk.tell(2, false), 0);
        ask.due("tell(3, false), it went", desk.tell(3, false), 0);
        told(desk, true, 2, 3);
        desk.hint(1);
        ask.due("tell(2, true), hint() leaves it", desk.tell(2, true), 0);
        ask.due("take(), without TOTAL", desk.take(), 1);
        ask.due("name(false), TOTAL went", desk.name(false), 0);
        ask.due("tell(0, true), it came", desk.tell(0, true), 0);
        ask.due("tell(3, false), it went", desk.tell(3, false), 0);
        desk.flag(1);
        desk.hint(3);
        ask.due("take(), with TOTAL, which is no cell", desk.take(), 1);
        ask.due("name(true), TOTAL came", desk.name(true), 0);
        desk.hint(1);
        ask.due("take(), a hint() that found none", desk.take(), 0);
        ask.due("name(false), TOTAL went", desk.name(false), 0);
        desk = new MineDesk();
        desk.hint(3);
        ask.due("take(), TOTAL alone", desk.take(), 0);
        ask.due("name(true), TOTAL came", desk.name(true), 0);
        ask.due("take(), again", desk.take(), 0);
        desk = twoRows(7, 1, 5);
        desk.hint(3);
        ask.due("take(), 12 cells", desk.take(), 12);
        ask.due("tell(35, true), it came", desk.tell(35, true), 0);
    }

    private static void tells() {
        ask.sentence("Promise 21", "A cell comes to the told reasons, or goes: 1 if that changes something, else 0.");
        MineDesk desk = Checks.opened(Checks.board(10, 10, 0, 0, 11), 0, 1);
        int[] cells = {0, 1, 2, 63, 64, 99};
        for (int cell : cells) {
            ask.due("tell(" + cell + ", false)", desk.tell(cell, false), 0);
            ask.due("tell(" + cell + ", true)", desk.tell(cell, true), 1);
            ask.due("tell(" + cell + ", true), again", desk.tell(cell, true), 0);
        }
        for (int cell : cells) {
            ask.due("tell(" + cell + ", false)", desk.tell(cell, false), 1);
            ask.due("tell(" + cell + ", false), again", desk.tell(cell, false), 0);
        }
        ask.due("count(7), it is no move", desk.count(7), 2);
        ask.sentence("Promise 21", "NUMBER: there is no such cell.");
        for (int cell : Checks.NO_CELLS) {
            ask.due("tell(" + cell + ", true)", desk.tell(cell, true), MineDesk.NUMBER);
            ask.due("tell(" + cell + ", false)", desk.tell(cell, false), MineDesk.NUMBER);
        }
        ask.due("name(false), 100 isn't TOTAL", desk.name(false), 0);
        desk.blank(3, 2, 0);
        ask.due("tell(6, true), 6 cells", desk.tell(6, true), MineDesk.NUMBER);
        ask.due("tell(5, true), 6 cells", desk.tell(5, true), 1);
        ask.sentence("Promise 21", "(blank() and a make() that makes let all go, TOTAL too.)");
        desk.name(true);
        desk.blank(11, 2, 0);
        desk.make(3, 2, 0, 0, 1, 4);
        ask.due("make() that is given up", desk.make(2, 4, 1, 0, 1, 1), 0);
        ask.due("tell(5, true), it is there still", desk.tell(5, true), 0);
        ask.due("name(true), it is there still", desk.name(true), 0);
        desk.blank(3, 2, 0);
        ask.due("tell(5, false), after blank()", desk.tell(5, false), 0);
        ask.due("name(false), after blank()", desk.name(false), 0);
        told(desk, true, 5);
        desk.make(3, 2, 0, 0, 1, 1);
        ask.due("tell(5, false), after make()", desk.tell(5, false), 0);
        ask.due("name(false), after make()", desk.name(false), 0);
        ask.sentence("Promise 22", "TOTAL is among the told reasons, or not: 1 if that changes something, else 0.");
        ask.due("name(true)", desk.name(true), 1);
        ask.due("name(true), again", desk.name(true), 0);
        ask.due("name(false)", desk.name(false), 1);
        ask.due("name(false), again", desk.name(false), 0);
    }

    private static void checkNone() {
        ask.sentence("Promise 23", "Whether the told reasons alone force a VERDICT (1 MINED, 0 SAFE) of a cell");
        MineDesk desk = Checks.opened(Checks.board(5, 1, 0, 1), 0);
        ask.due("check(1, 1), nothing told", desk.check(1, 1), 0);
        ask.due("check(1, 0), nothing told", desk.check(1, 0), 0);
        desk.tell(0, true);
        ask.due("check(1, 1)", desk.check(1, 1), 1);
        ask.due("check(1, 0)", desk.check(1, 0), 0);
        ask.due("check(2, 0), what is so isn't forced", desk.check(2, 0), 0);
        desk.open(2);
        ask.due("check(3, 0), 2 isn't told", desk.check(3, 0), 0);
        desk.tell(2, true);
        ask.due("check(3, 0), by 0 and 2", desk.check(3, 0), 1);
        ask.due("check(3, 1), by 0 and 2", desk.check(3, 1), 0);
        desk.tell(0, false);
        ask.due("check(3, 0), by 2 alone", desk.check(3, 0), 0);
        desk.flag(1);
        ask.due("check(3, 0), a flag is no reason", desk.check(3, 0), 0);
        ask.due("check(1, 1), FLAGGED is HIDDEN", desk.check(1, 1), 0);
        desk.tell(0, true);
        ask.due("check(1, 1), FLAGGED is HIDDEN", desk.check(1, 1), 1);
        ask.sentence("Promise 23", "or BLOWN, as its NUMBER says");
        desk = Checks.opened(Checks.board(5, 1, 0, 1), 1, 2);
        desk.tell(2, true);
        ask.due("check(3, 0), 1 is BLOWN", desk.check(3, 0), 1);
        ask.due("check(3, 1), 1 is BLOWN", desk.check(3, 1), 0);
    }

    private static void checkTotal() {
        ask.sentence("Promise 23", "and which has (if TOTAL is told) TOTAL less the BLOWN ones");
        MineDesk desk = Checks.board(3, 1, 0);
        ask.due("check(0, 0), no mine, TOTAL isn't told", desk.check(0, 0), 0);
        desk.name(true);
        ask.due("check(0, 0), no mine", desk.check(0, 0), 1);
        ask.due("check(0, 1), no mine", desk.check(0, 1), 0);
        desk = Checks.board(3, 1, 0, 0, 1, 2);
        ask.due("check(2, 1), mines alone, TOTAL isn't told", desk.check(2, 1), 0);
        desk.name(true);
        ask.due("check(2, 1), mines alone", desk.check(2, 1), 1);
        ask.due("check(2, 0), mines alone", desk.check(2, 0), 0);
        desk.open(0);
        ask.due("check(2, 1), one is BLOWN", desk.check(2, 1), 1);
        desk = Checks.opened(Checks.board(3, 1, 0, 0), 0);
        desk.name(true);
        ask.due("check(2, 0), the only one is BLOWN", desk.check(2, 0), 1);
        desk = Checks.board(3, 1, 0, 0, 1);
        desk.name(true);
        ask.due("check(2, 0), two of three", desk.check(2, 0), 0);
        ask.due("check(0, 1), two of three", desk.check(0, 1), 0);
        // 1 has both mines, or both but one.
        desk = Checks.opened(Checks.board(4, 1, 0, 0, 2), 1);
        told(desk, true, 1);
        ask.due("check(3, 0), none is left", desk.check(3, 0), 1);
        desk.name(false);
        ask.due("check(3, 0), TOTAL isn't told", desk.check(3, 0), 0);
        desk = Checks.opened(Checks.board(4, 1, 0, 0, 3), 1);
        told(desk, true, 1);
        ask.due("check(3, 1), one is left of one", desk.check(3, 1), 1);
        desk.name(false);
        ask.due("check(3, 1), TOTAL isn't told", desk.check(3, 1), 0);
        desk = Checks.opened(Checks.board(5, 1, 0, 0, 3), 1);
        told(desk, true, 1);
        ask.due("check(3, 1), one is left of two", desk.check(3, 1), 0);
        ask.due("check(3, 0), one is left of two", desk.check(3, 0), 0);
    }

    private static void checkNotOpen() {
        ask.sentence("Promise 23", "Told cells that aren't OPEN count nothing.");
        MineDesk desk = Checks.board(5, 1, 0, 1);
        desk.tell(0, true);
        ask.due("check(1, 1), 0 is HIDDEN", desk.check(1, 1), 0);
        desk.flag(0);
        ask.due("check(1, 1), 0 is FLAGGED", desk.check(1, 1), 0);
        desk.flag(0);
        desk.open(0);
        ask.due("check(1, 1), 0 is OPEN", desk.check(1, 1), 1);
        desk.undo();
        ask.due("check(1, 1), 0 is HIDDEN again", desk.check(1, 1), 0);
        desk = Checks.opened(Checks.board(3, 3, 0, 4), 4);
        desk.tell(4, true);
        ask.due("check(0, 0), 4 is BLOWN, with the NUMBER 0", desk.check(0, 0), 0);
        // 15 cells and more around cells that aren't OPEN.
        desk = Checks.board(10, 10, 0, 55);
        for (int cell = 0; cell < 100; cell++) {
            desk.tell(cell, true);
        }
        ask.due("check(0, 0), all told and HIDDEN", desk.check(0, 0), 0);
        desk.open(55);
        ask.due("check(0, 0), all told, one BLOWN", desk.check(0, 0), 0);
        desk.name(true);
        ask.due("check(0, 0), TOTAL too", desk.check(0, 0), 1);
        desk.open(44);
        ask.due("check(43, 0), 44 is OPEN, with a BLOWN one", desk.check(43, 0), 1);
    }

    private static void checkRefused() {
        ask.sentence("Promise 23", "NUMBER: there is no such cell, or the verdict isn't 0, 1");
        MineDesk desk = Checks.opened(Checks.board(10, 10, 0, 1, 50), 0, 50);
        for (int cell : Checks.NO_CELLS) {
            ask.due("check(" + cell + ", 0)", desk.check(cell, 0), MineDesk.NUMBER);
            ask.due("check(" + cell + ", 1)", desk.check(cell, 1), MineDesk.NUMBER);
            ask.due("check(" + cell + ", 2)", desk.check(cell, 2), MineDesk.NUMBER);
        }
        int[] wrong = {-1, 2, 3, -2, MIN, MIN + 1, MAX, 256};
        for (int verdict : wrong) {
            ask.due("check(99, " + verdict + ")", desk.check(99, verdict), MineDesk.NUMBER);
            ask.due("check(0, " + verdict + "), OPEN", desk.check(0, verdict), MineDesk.NUMBER);
        }
        ask.sentence("Promise 23", "STATE: it isn't HIDDEN");
        ask.due("check(0, 0), OPEN", desk.check(0, 0), MineDesk.STATE);
        ask.due("check(0, 1), OPEN", desk.check(0, 1), MineDesk.STATE);
        ask.due("check(50, 1), BLOWN", desk.check(50, 1), MineDesk.STATE);
        desk.flag(1);
        ask.due("check(1, 1), FLAGGED", desk.check(1, 1), 0);
        desk.blank(3, 2, 0);
        ask.due("check(6, 0), 6 cells", desk.check(6, 0), MineDesk.NUMBER);
        ask.due("check(5, 0), 6 cells", desk.check(5, 0), 0);
    }

    private static void checkLong() {
        ask.sentence("Promise 23", "LONG: the cell and all HIDDEN NEIGHBOURS of told OPEN cells are more than 14.");
        // The middle row of 7 is open, with 14 cells around it, and more below.
        MineDesk desk = new MineDesk();
        desk.blank(7, 5, 0);
        for (int cell = 0; cell < 7; cell++) {
            desk.edit(cell, true);
        }
        for (int cell = 7; cell < 14; cell++) {
            desk.open(cell);
            desk.tell(cell, true);
        }
        ask.due("check(0, 1), one of 14", desk.check(0, 1), 0);
        ask.due("check(28, 0), the 15th", desk.check(28, 0), MineDesk.LONG);
        ask.due("check(28, 1), the 15th", desk.check(28, 1), MineDesk.LONG);
        ask.due("ways(), which is LONG anyhow", desk.ways(), MineDesk.LONG);
        desk.name(true);
        ask.due("check(0, 1), one of 14, and TOTAL", desk.check(0, 1), 0);
        ask.due("check(28, 0), the 15th, and TOTAL", desk.check(28, 0), MineDesk.LONG);
        desk.tell(13, false);
        ask.due("check(28, 0), 12 has 6 and 20 still", desk.check(28, 0), MineDesk.LONG);
        desk.tell(12, false);
        ask.due("check(28, 0), the 13th", desk.check(28, 0), 0);
        told(desk, true, 12, 13);
        desk.open(0);
        ask.due("check(28, 0), a BLOWN one isn't HIDDEN", desk.check(28, 0), 1);
        ask.due("check(14, 0), beneath a BLOWN one", desk.check(14, 0), 1);
        ask.due("check(15, 0), beneath none", desk.check(15, 0), 0);
        desk.undo();
        desk.flag(0);
        ask.due("check(28, 0), a FLAGGED one is HIDDEN", desk.check(28, 0), MineDesk.LONG);
        ask.due("check(7, 0), OPEN, with 14 cells", desk.check(7, 0), MineDesk.STATE);
        ask.due("check(35, 0), with 14 cells", desk.check(35, 0), MineDesk.NUMBER);
        ask.due("check(28, 2), the 15th", desk.check(28, 2), MineDesk.NUMBER);
        // The same one row further down, so that 0 is apart.
        desk = new MineDesk();
        desk.blank(7, 5, 0);
        for (int c = 0; c < 7; c++) {
            desk.edit(7 + c, true);
        }
        for (int cell = 14; cell < 21; cell++) {
            desk.open(cell);
            desk.tell(cell, true);
        }
        ask.due("check(7, 1), one of 14", desk.check(7, 1), 0);
        ask.due("check(27, 0), one of 14", desk.check(27, 0), 0);
        ask.due("check(0, 0), the 15th", desk.check(0, 0), MineDesk.LONG);
        ask.due("check(34, 0), the 15th", desk.check(34, 0), MineDesk.LONG);
        // 14 mines of 14 cells, and of 13 with one beside them.
        desk = new MineDesk();
        desk.blank(7, 4, 0);
        for (int c = 0; c < 7; c++) {
            desk.edit(c, true);
            desk.edit(14 + c, true);
        }
        for (int cell = 7; cell < 14; cell++) {
            desk.open(cell);
            desk.tell(cell, true);
        }
        ask.due("check(20, 1), 14 of 14", desk.check(20, 1), 1);
        ask.due("check(20, 0), 14 of 14", desk.check(20, 0), 0);
        ask.due("check(27, 0), the 15th", desk.check(27, 0), MineDesk.LONG);
        desk.open(20);
        ask.due("check(27, 0), the 14th", desk.check(27, 0), 0);
        ask.due("check(27, 1), the 14th", desk.check(27, 1), 0);
        desk.name(true);
        ask.due("check(27, 0), the 14th, and TOTAL", desk.check(27, 0), 1);
        // 8 + 8 cells, of which 3 are those of both.
        desk = Checks.opened(Checks.board(5, 5, 0, 2, 7), 6, 8);
        told(desk, false, 6, 8);
        ask.due("check(0, 0), one of 13", desk.check(0, 0), 0);
        ask.due("check(24, 0), the 14th", desk.check(24, 0), 0);
        desk.name(true);
        ask.due("check(24, 0), the 14th, and TOTAL", desk.check(24, 0), 1);
    }

    private static void counts() {
        ask.sentence("Promise 24", "LONG: the BOARD is TOO LONG.");
        ask.due("ways(), 13 cells", Checks.opened(Checks.board(5, 3, 0, 2, 7), 6, 8).ways(), MineDesk.LONG);
        ask.due("ways(), 12 cells", Checks.opened(Checks.board(5, 3, 0, 2, 7), 6, 8, 2).ways(), 2);
        ask.due("ways(), nothing HIDDEN", Checks.opened(Checks.board(1, 1, 0), 0).ways(), 1);
        ask.due("ways(), all BLOWN", Checks.opened(Checks.board(1, 1, 0, 0), 0).ways(), 1);
        ask.due("ways(), no mine", Checks.board(10, 10, 0).ways(), 1);
        ask.sentence("Promise 25", "NUMBER: there is no such cell");
        MineDesk desk = Checks.opened(Checks.board(10, 10, 0, 1, 50), 0, 50);
        for (int cell : Checks.NO_CELLS) {
            ask.due("with(" + cell + ")", desk.with(cell), MineDesk.NUMBER);
        }
        ask.sentence("Promise 25", "STATE: it isn't HIDDEN");
        ask.due("with(0), OPEN", desk.with(0), MineDesk.STATE);
        ask.due("with(50), BLOWN", desk.with(50), MineDesk.STATE);
        ask.due("with(1)", desk.with(1), 1);
        desk.flag(1);
        ask.due("with(1), FLAGGED", desk.with(1), 1);
        ask.due("with(99)", desk.with(99), 0);
        desk.blank(3, 2, 0);
        ask.due("with(6), 6 cells", desk.with(6), MineDesk.NUMBER);
        ask.due("with(5), 6 cells, no mine", desk.with(5), 0);
        ask.sentence("Promise 25", "LONG: the BOARD is TOO LONG.");
        desk = Checks.opened(Checks.board(5, 4, 0, 2, 7), 6, 8);
        ask.due("with(0), 13 cells", desk.with(0), MineDesk.LONG);
        ask.due("with(19), 13 cells, apart from these", desk.with(19), MineDesk.LONG);
        ask.due("with(6), OPEN, 13 cells", desk.with(6), MineDesk.STATE);
        ask.due("with(20), 13 cells", desk.with(20), MineDesk.NUMBER);
        ask.due("with(-1), 13 cells", desk.with(-1), MineDesk.NUMBER);
        desk.open(2);
        ask.due("with(2), BLOWN, 12 cells", desk.with(2), MineDesk.STATE);
        ask.due("with(19), 12 cells", desk.with(19), 0);
        ask.due("with(7), 12 cells", desk.with(7), 1);
    }

    public static void main(String[] args) {
        partLong();
        partsApart();
        sets();
        modulus();
        takes();
        tells();
        checkNone();
        checkTotal();
        checkNotOpen();
        checkRefused();
        checkLong();
        counts();
        ask.end();
    }
}
