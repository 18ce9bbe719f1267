import java.util.Arrays;

/** The sentences of part 4 of the terms and of promises 4 and 5 that name a boundary case, one by one. */
public final class MakeEdgesTest {
    private static final int MIN = Integer.MIN_VALUE;
    private static final int MAX = Integer.MAX_VALUE;
    private static final Checks ask = new Checks();

    private static int make(MineDesk desk, int... a) {
        return desk.make(a[0], a[1], a[2], a[3], a[4], a[5]);
    }

    /** What a new desk answers, and how often it mended. */
    private static void made(int due, int mended, int... a) {
        MineDesk desk = new MineDesk();
        String call = "make" + Arrays.toString(a);
        ask.due(call, make(desk, a), due);
        ask.due(call + ", then mended()", desk.mended(), mended);
        ask.due(call + ", then count(3)", desk.count(3), due == 1 ? a[2] : 0);
    }

    private static void refused(int... a) {
        made(MineDesk.NUMBER, 0, a);
    }

    private static boolean fits(int h, int shape) {
        return shape != 3 || h % 2 == 0;
    }

    /** The cells that can be mined by the rule of the first cell, of which the desk tells the neighbours. */
    private static boolean[] room(int w, int h, int shape) {
        MineDesk desk = Checks.board(w, h, shape);
        boolean[] room = new boolean[w * h];
        Arrays.fill(room, true);
        int first = w * (h / 2) + w / 2;
        room[first] = false;
        for (int i = 0; desk.neighbour(first, i) >= 0; i++) {
            room[desk.neighbour(first, i)] = false;
        }
        return room;
    }

    private static void firstCell() {
        ask.sentence("Terms", "the FIRST cell is that at row H / 2, column W / 2 (without the rest); it and its NEIGHBOURS are never MINED");
        for (int shape = 0; shape <= 3; shape++) {
            for (int w = 1; w <= 10; w++) {
                for (int h = 1; h <= 10; h++) {
                    if (fits(h, shape)) {
                        fillUp(w, h, shape);
                    }
                }
            }
        }
        MineDesk desk = new MineDesk();
        ask.due("make(5, 4, 11, 0, 1, 1), FIRST is 12", desk.make(5, 4, 11, 0, 1, 1), 1);
        ask.mines(desk, 0, 1, 2, 3, 4, 5, 9, 10, 14, 15, 19);
        ask.due("make(4, 4, 9, 3, 7, 1), FIRST is 10", desk.make(4, 4, 9, 3, 7, 1), 1);
        ask.mines(desk, 0, 1, 2, 3, 4, 7, 8, 12, 15);
    }

    /** With all mines that can be, the first cell opens all the others. */
    private static void fillUp(int w, int h, int shape) {
        boolean[] room = room(w, h, shape);
        int most = 0;
        for (boolean one : room) {
            most += one ? 1 : 0;
        }
        String board = w + " by " + h + ", shape " + shape;
        MineDesk desk = new MineDesk();
        ask.due(board + ", as many mines as can be", desk.make(w, h, most, shape, 12345 * w + h, 1), 1);
        boolean same = true;
        for (int cell = 0; cell < w * h; cell++) {
            same &= desk.mined(cell) == room[cell];
        }
        ask.due(board + ", they are where they can be", same, true);
        ask.due(board + ", mended()", desk.mended(), 0);
        ask.due(board + ", one more", desk.make(w, h, most + 1, shape, 1, 1), MineDesk.NUMBER);
        ask.due(board + ", no mine", desk.make(w, h, 0, shape, 1, 1), 1);
        ask.due(board + ", count(3)", desk.count(3), 0);
    }

    private static void oneMine(int seed, int cell) {
        MineDesk desk = new MineDesk();
        ask.due("make(5, 5, 1, 0, " + seed + ", 1)", desk.make(5, 5, 1, 0, seed, 1), 1);
        ask.mines(desk, cell);
        ask.due("mended()", desk.mended(), 0);
    }

    private static void highestBit() {
        ask.sentence("Terms", "x is the seed at first, without its highest bit");
        // From 0 comes 0, from 1 16838, from the largest 15929: of 16 cells those at 0, 6 and 9.
        oneMine(0, 0);
        oneMine(MIN, 0);
        oneMine(1, 9);
        oneMine(MIN + 1, 9);
        oneMine(MAX, 15);
        oneMine(-1, 15);
        int[] seeds = {0, 1, 17, 4711, 1 << 30, MAX - 1, MAX};
        for (int seed : seeds) {
            MineDesk one = new MineDesk();
            MineDesk other = new MineDesk();
            ask.due("make(), seed " + seed, one.make(7, 7, 9, 0, seed, 3), other.make(7, 7, 9, 0, seed | MIN, 3));
            ask.due("the same board, seed " + seed, Portrait.of(one).equals(Portrait.of(other)), true);
        }
    }

    private static void draws() {
        ask.sentence("Terms", "for each mine x becomes 1103515245 x + 12345 modulo 2^31");
        // From seed 1 come 16838, 5758 and 10113: of 16, 15 and 14 cells those at 6, 13 and 5, which are 9, 23 and 5.
        MineDesk desk = new MineDesk();
        ask.due("make(5, 5, 2, 0, 1, 3)", desk.make(5, 5, 2, 0, 1, 3), 1);
        ask.mines(desk, 9, 23);
        ask.due("make(5, 5, 3, 0, 1, 3)", desk.make(5, 5, 3, 0, 1, 3), 1);
        ask.mines(desk, 5, 9, 23);
        ask.sentence("Terms", "of those that can be MINED and aren't yet, as many of these ahead of it as (x / 2^16 without the rest) "
            + "leaves by how many these are");
        // 0 to 3 and 7 to 9 can be mined; 16838 leaves 3 by 7, and 5758 leaves 4 by 6, where 3 isn't counted any more.
        ask.due("make(10, 1, 2, 0, 1, 3)", desk.make(10, 1, 2, 0, 1, 3), 1);
        ask.mines(desk, 3, 8);
        // 0 is the only one.
        ask.due("make(4, 1, 1, 0, -7, 1)", desk.make(4, 1, 1, 0, -7, 1), 1);
        ask.mines(desk, 0);
    }

    private static void mends() {
        ask.sentence("Terms", "the least HIDDEN MINED cell with an OPEN NEIGHBOUR is MINED no more, and the least HIDDEN cell that isn't MINED "
            + "and has no OPEN NEIGHBOUR is MINED");
        // Mines at 3 and 8 of a line opened at 5: 3 comes to 0, then 0 to 9, and then 8 and 9 leave nothing open to doubt.
        for (int grade = 1; grade <= 2; grade++) {
            MineDesk desk = new MineDesk();
            ask.due("make(10, 1, 2, 0, 1, " + grade + ")", desk.make(10, 1, 2, 0, 1, grade), 1);
            ask.mines(desk, 8, 9);
            ask.due("mended()", desk.mended(), 2);
        }
        MineDesk desk = new MineDesk();
        ask.due("make(10, 1, 2, 0, 1, 3)", desk.make(10, 1, 2, 0, 1, 3), 1);
        ask.mines(desk, 3, 8);
        ask.due("mended(), TOTAL tells the rest", desk.mended(), 0);
        // Mines at 2 and 3: 3 is next to 4, and 0 is the least; then 2 comes to 1. TOTAL alone doesn't tell 0 and 1 from each other.
        ask.due("make(10, 1, 2, 0, 21, 3)", desk.make(10, 1, 2, 0, 21, 3), 1);
        ask.mines(desk, 0, 1);
        ask.due("mended()", desk.mended(), 2);
        ask.sentence("Terms", "If it is SOLVED then, the BOARD is made: all its cells are HIDDEN without FLAGS.");
        ask.shown(desk, "..........");
        ask.due("count(4)", desk.count(4), 0);
        ask.due("count(5)", desk.count(5), 0);
        ask.due("count(6)", desk.count(6), 0);
        ask.due("count(7)", desk.count(7), 0);
    }

    private static void plays() {
        ask.sentence("Terms", "as long as it isn't SOLVED, the HINT of the told grade: a SAFE cell is opened, a MINED one FLAGGED; "
            + "until there is no HINT");
        // 0 and 2 are mined; 3 and 5 have one mine each, and 4 both, so that it takes RULE 2 to tell 2.
        made(0, 0, 3, 4, 2, 0, 17, 1);
        made(1, 0, 3, 4, 2, 0, 17, 2);
        made(1, 0, 3, 4, 2, 0, 17, 3);
        MineDesk desk = new MineDesk();
        desk.make(3, 4, 2, 0, 17, 2);
        ask.mines(desk, 0, 2);
        desk.open(7);
        ask.due("hint(1)", desk.hint(1), 0);
        ask.due("hint(2)", desk.hint(2), 6);
        desk.flag(2);
        ask.due("hint(2)", desk.hint(2), 3);
        // TOTAL is needed for 0 to 2 of a line that has its mine at 3.
        made(1, 1, 10, 1, 1, 0, 1, 2);
        made(1, 0, 10, 1, 1, 0, 1, 3);
    }

    private static void fortyTimes() {
        ask.sentence("Terms", "It is given up when it would be MENDED for the 41st time");
        made(1, 39, 10, 10, 20, 0, 888021, 1);
        made(1, 40, 10, 10, 25, 0, 584334, 1);
        made(1, 40, 10, 10, 27, 0, 815401, 2);
        made(1, 40, 10, 10, 28, 0, 349206, 3);
        made(1, 40, 9, 10, 33, 2, 498395, 3);
        made(1, 40, 10, 9, 28, 2, 390443, 1);
        made(1, 40, 9, 10, 26, 2, 483523, 2);
        made(0, 40, 10, 10, 29, 0, 128917, 1);
        made(0, 40, 10, 10, 24, 0, 58736, 2);
        made(0, 40, 10, 10, 24, 0, 993943, 3);
        made(0, 40, 9, 10, 27, 2, 787506, 1);
        made(0, 40, 10, 10, 24, 2, 674309, 2);
        made(0, 40, 9, 10, 29, 2, 123492, 3);
    }

    private static void missing() {
        ask.sentence("Terms", "or when one of these two cells is missing");
        for (int grade = 1; grade <= 3; grade++) {
            // 0 and 1 can be mined, and 2 and 3 see both of them; no cell is further away.
            made(0, 0, 2, 4, 1, 0, 0, grade);
            made(0, 0, 2, 4, 1, 0, 1, grade);
            // Six cells can be mined, two by two: 0 to 3, 10 and 11. The mine comes to 0 and stays in doubt.
            made(0, 0, 2, 6, 1, 0, 0, grade);
        }
        // It comes to 2, and from there to 0, with none further away; TOTAL opens 0 and 1 ahead of that.
        made(0, 1, 2, 6, 1, 0, 1, 1);
        made(0, 1, 2, 6, 1, 0, 1, 2);
        made(0, 0, 2, 6, 1, 0, 1, 3);
        made(0, 39, 10, 10, 30, 0, 352197, 1);
    }

    private static void sizes() {
        ask.sentence("Promise 4", "NUMBER: w or h isn't 1 .. 10");
        int[] sides = {0, 11, -1, -10, 100, 1 << 16, MIN, MAX};
        for (int side : sides) {
            refused(side, 4, 0, 0, 1, 1);
            refused(4, side, 0, 0, 1, 1);
            refused(side, side, 0, 0, 1, 1);
        }
        made(1, 0, 1, 1, 0, 0, 1, 1);
        made(1, 0, 10, 10, 0, 0, 1, 1);
        made(1, 0, 1, 10, 0, 0, 1, 1);
        made(1, 0, 10, 1, 0, 0, 1, 1);
        ask.sentence("Promise 4", "shape not 0 .. 3, or it is 3 and h is odd");
        int[] shapes = {-1, 4, 5, MIN, MAX};
        for (int shape : shapes) {
            refused(4, 4, 0, shape, 1, 1);
        }
        for (int h = 1; h <= 10; h++) {
            for (int shape = 0; shape <= 3; shape++) {
                made(fits(h, shape) ? 1 : MineDesk.NUMBER, 0, 3, h, 0, shape, 1, 1);
            }
        }
    }

    private static void mines() {
        ask.sentence("Promise 4", "mines is below 0 or more than the cells that can be MINED");
        int[] wrong = {-1, -2, -100, 17, 25, 26, 100, MIN, MAX};
        for (int mines : wrong) {
            refused(5, 5, mines, 0, 1, 1);
        }
        made(1, 0, 5, 5, 16, 0, 1, 1);
        made(1, 0, 5, 5, 0, 0, 1, 1);
        // Nothing can be mined here.
        refused(1, 1, 1, 0, 1, 1);
        refused(3, 3, 1, 0, 1, 1);
        refused(3, 3, 1, 1, 1, 1);
        refused(2, 2, 1, 3, 1, 1);
        made(1, 0, 3, 3, 0, 1, 1, 1);
        ask.sentence("Promise 4", "or grade isn't 1 .. 3");
        int[] grades = {0, 4, -1, 5, MIN, MAX};
        for (int grade : grades) {
            refused(5, 5, 1, 0, 1, grade);
        }
        for (int grade = 1; grade <= 3; grade++) {
            made(1, 0, 5, 5, 1, 0, 1, grade);
        }
    }

    private static void givenUp() {
        ask.sentence("Promise 4", "0 if it is given up (all but what mended() tells is as ahead of the call then)");
        String before = Portrait.of(Checks.used());
        MineDesk desk = Checks.used();
        ask.due("make(2, 6, 1, 0, 1, 1)", desk.make(2, 6, 1, 0, 1, 1), 0);
        ask.due("mended()", desk.mended(), 1);
        ask.due("hint(3), as ahead of the call", desk.hint(3), 5);
        ask.due("ways(), as ahead of the call", desk.ways(), 1);
        ask.due("neighbour(3, 0), as ahead of the call", desk.neighbour(3, 0), 2);
        ask.due("all else", Portrait.of(desk).replace("mended 1", "mended 0").equals(before), true);
        desk = Checks.used();
        ask.due("make(10, 10, 24, 0, 58736, 2)", desk.make(10, 10, 24, 0, 58736, 2), 0);
        ask.due("all else", Portrait.of(desk).replace("mended 40", "mended 0").equals(before), true);
    }

    private static void forgets() {
        ask.sentence("Promise 4", "If it is made, moves, the HINT and the told reasons are forgotten.");
        MineDesk desk = Checks.used();
        ask.due("make(4, 1, 1, 0, 1, 1)", desk.make(4, 1, 1, 0, 1, 1), 1);
        String due = "counts 4 1 0 1 0 0 0 0 mended 0 kind 0 reasons told cells m9 9 9 9 back";
        ask.due("nothing else is left", Portrait.of(desk).equals(due), true);
        desk = Checks.used();
        desk.make(4, 1, 1, 0, 1, 1);
        ask.due("undo()", desk.undo(), MineDesk.STATE);
        ask.due("take()", desk.take(), 0);
        ask.due("name(false)", desk.name(false), 0);
    }

    private static void mendings() {
        ask.sentence("Promise 5", "How often the BOARD was MENDED by the latest make() that wasn't refused; 0 before.");
        MineDesk desk = new MineDesk();
        ask.due("mended(), no make()", desk.mended(), 0);
        desk.make(0, 1, 1, 0, 1, 1);
        ask.due("mended(), make() was refused", desk.mended(), 0);
        desk.make(10, 1, 2, 0, 1, 1);
        ask.due("mended(), made", desk.mended(), 2);
        desk.make(10, 1, 2, 0, 1, 0);
        ask.due("mended(), grade refused", desk.mended(), 2);
        desk.make(10, 1, 8, 0, 1, 1);
        ask.due("mended(), mines refused", desk.mended(), 2);
        desk.make(10, 1, -1, 0, 1, 1);
        ask.due("mended(), mines refused", desk.mended(), 2);
        desk.blank(3, 3, 0);
        desk.edit(0, true);
        desk.open(0);
        desk.hint(3);
        desk.undo();
        ask.due("mended(), after other calls", desk.mended(), 2);
        desk.make(2, 6, 1, 0, 1, 1);
        ask.due("mended(), given up", desk.mended(), 1);
        desk.make(2, 4, 1, 0, 1, 1);
        ask.due("mended(), given up at once", desk.mended(), 0);
        desk.make(10, 1, 2, 0, 1, 1);
        desk.make(5, 5, 1, 0, 1, 1);
        ask.due("mended(), made at once", desk.mended(), 0);
    }

    public static void main(String[] args) {
        firstCell();
        highestBit();
        draws();
        mends();
        plays();
        fortyTimes();
        missing();
        sizes();
        mines();
        givenUp();
        forgets();
        mendings();
        ask.end();
    }
}
