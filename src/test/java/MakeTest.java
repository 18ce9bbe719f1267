/** Promises 4 and 5: what is drawn, how it is mended, when it is given up, what is forgotten. */
public final class MakeTest {
    private static final Checks ask = new Checks();

    private static void refusals() {
        ask.about("promise 4, refusals");
        MineDesk desk = new MineDesk();
        int[][] wrong = {
            {0, 5, 1, 0, 1, 1}, {5, 0, 1, 0, 1, 1}, {11, 5, 1, 0, 1, 1}, {5, 11, 1, 0, 1, 1}, {-1, -1, 0, 0, 1, 1},
            {5, 5, 1, -1, 1, 1}, {5, 5, 1, 4, 1, 1}, {5, 5, 1, 3, 1, 1}, {5, 5, -1, 0, 1, 1}, {5, 5, 17, 0, 1, 1},
            {5, 5, 1, 0, 1, 0}, {5, 5, 1, 0, 1, 4}, {3, 3, 1, 0, 1, 1}, {3, 3, 1, 1, 1, 1}, {5, 5, 19, 2, 1, 1},
            {4, 4, 10, 3, 1, 1}, {2, 2, 1, 0, 1, 1}, {10, 10, Integer.MAX_VALUE, 0, 1, 1},
            {10, 10, Integer.MIN_VALUE, 0, 1, 1}, {Integer.MAX_VALUE, Integer.MAX_VALUE, 0, 0, 1, 1},
        };
        for (int[] a : wrong) {
            String call = "make" + java.util.Arrays.toString(a);
            ask.due(call, desk.make(a[0], a[1], a[2], a[3], a[4], a[5]), MineDesk.NUMBER);
        }
        ask.due("count(0)", desk.count(0), 1);
        ask.due("as many as can be", desk.make(5, 5, 16, 0, 1, 1), 1);
        ask.mines(desk, 0, 1, 2, 3, 4, 5, 9, 10, 14, 15, 19, 20, 21, 22, 23, 24);
        ask.due("as many as can be, six-sided", desk.make(5, 5, 18, 2, 1, 1), 1);
        ask.due("as many as can be, six-sided on a ring", desk.make(4, 4, 9, 3, 1, 1), 1);
        ask.due("none", desk.make(10, 10, 0, 0, 1, 1), 1);
    }

    private static void drawing() {
        ask.about("promise 4, drawing");
        MineDesk desk = new MineDesk();
        // From seed 1 come 16838, 5758 and 10113: of 16, 15 and 14 cells those at 6, 13 and 5.
        ask.due("make(5, 5, 1, 0, 1, 1)", desk.make(5, 5, 1, 0, 1, 1), 1);
        ask.mines(desk, 9);
        ask.due("mended()", desk.mended(), 0);
        ask.due("make(5, 5, 3, 0, 1, 3)", desk.make(5, 5, 3, 0, 1, 3), 1);
        ask.mines(desk, 5, 9, 23);
        ask.due("mended()", desk.mended(), 0);
        ask.due("make(5, 5, 1, 0, MIN + 1, 1)", desk.make(5, 5, 1, 0, Integer.MIN_VALUE + 1, 1), 1);
        ask.mines(desk, 9);
        ask.due("make(5, 5, 1, 0, 0, 1)", desk.make(5, 5, 1, 0, 0, 1), 1);
        ask.mines(desk, 0);
        for (int cell = 0; cell < 25; cell++) {
            ask.due("shown(" + cell + ")", desk.shown(cell), 9);
        }
        ask.due("count(5)", desk.count(5), 0);
        // The first cell is at row 0, column 2 here, and 0 the only cell that can be mined.
        ask.due("make(4, 1, 1, 0, 77, 1)", desk.make(4, 1, 1, 0, 77, 1), 1);
        ask.mines(desk, 0);
        // At row 1, column 0 here.
        ask.due("make(1, 3, 0, 0, 77, 1)", desk.make(1, 3, 0, 0, 77, 1), 1);
        ask.due("make(1, 4, 1, 0, 77, 1)", desk.make(1, 4, 1, 0, 77, 1), 1);
        ask.mines(desk, 0);
    }

    private static void mending() {
        ask.about("promises 4 and 5, mending");
        MineDesk desk = new MineDesk();
        // The mine comes to 3 of a line of 10, opened at 5: 0 to 2 can't be told by numbers alone.
        ask.due("make(10, 1, 1, 0, 1, 1)", desk.make(10, 1, 1, 0, 1, 1), 1);
        ask.mines(desk, 0);
        ask.due("mended()", desk.mended(), 1);
        ask.due("make(10, 1, 1, 0, 1, 2)", desk.make(10, 1, 1, 0, 1, 2), 1);
        ask.mines(desk, 0);
        ask.due("mended()", desk.mended(), 1);
        ask.due("make(10, 1, 1, 0, 1, 3)", desk.make(10, 1, 1, 0, 1, 3), 1);
        ask.mines(desk, 3);
        ask.due("mended()", desk.mended(), 0);
        desk.make(10, 1, 1, 0, 1, 1);
        ask.due("make(0, ..)", desk.make(0, 1, 1, 0, 1, 1), MineDesk.NUMBER);
        ask.due("mended() after a refusal", desk.mended(), 1);
        desk.blank(2, 2, 0);
        ask.due("mended() after blank()", desk.mended(), 1);
    }

    private static void givenUp() {
        ask.about("promises 4 and 5, giving up");
        MineDesk desk = Checks.board(4, 1, 0, 1);
        desk.open(0);
        desk.flag(1);
        desk.hint(3);
        desk.take();
        desk.make(10, 1, 1, 0, 1, 0);
        ask.due("make(10, 10, 40, 2, 887092, 1)", desk.make(10, 10, 40, 2, 887092, 1), 0);
        ask.due("mended()", desk.mended(), 40);
        ask.shown(desk, "1F..");
        ask.mines(desk, 1);
        ask.due("count(0)", desk.count(0), 4);
        ask.due("count(7)", desk.count(7), 2);
        ask.reasons(desk, 3, true, 0);
        ask.due("tell(0, true)", desk.tell(0, true), 0);
        ask.due("name(true)", desk.name(true), 0);
        ask.neighbours(desk, 1, 0, 2);
        ask.due("undo()", desk.undo(), 1);
        ask.shown(desk, "1...");
        ask.due("make(8, 8, 12, 0, 5, 1)", desk.make(8, 8, 12, 0, 5, 1), 0);
        ask.due("mended()", desk.mended(), 0);
        ask.due("make(9, 10, 33, 2, 498395, 3)", desk.make(9, 10, 33, 2, 498395, 3), 1);
        ask.due("mended()", desk.mended(), 40);
        ask.due("count(3)", desk.count(3), 33);
        ask.due("count(7)", desk.count(7), 0);
        ask.reasons(desk, 0, false);
        ask.due("tell(0, false)", desk.tell(0, false), 0);
        ask.due("name(false)", desk.name(false), 0);
        ask.due("undo()", desk.undo(), MineDesk.STATE);
    }

    /** Each made board is cleared by the hints of its grade, from its first cell on. */
    private static void hintsClear() {
        ask.about("promise 4, hints clear what is made");
        for (int seed = 0; seed < 150; seed++) {
            MineDesk desk = new MineDesk();
            int grade = 1 + seed % 3;
            if (desk.make(8, 8, 4 + seed % 9, seed % 4, seed, grade) == 1) {
                desk.open(36);
                for (int i = 0; i < 100 && !desk.solved(); i++) {
                    int hint = desk.hint(grade);
                    int answer = hint % 2 == 1 ? desk.open((hint - 1) / 2) : desk.flag((hint - 2) / 2);
                    ask.due("seed " + seed + ", a hint that is right", answer >= 0, true);
                }
                ask.due("seed " + seed + ", solved()", desk.solved(), true);
                ask.due("seed " + seed + ", blown ones", desk.count(6), 0);
            }
        }
    }

    private static void compare(int w, int h, int mines, int shape, int seed, int grade) {
        String call = "make(" + w + ", " + h + ", " + mines + ", " + shape + ", " + seed + ", " + grade + ")";
        MineDesk desk = new MineDesk();
        SlowDesk slow = new SlowDesk();
        ask.due(call, desk.make(w, h, mines, shape, seed, grade), slow.make(w, h, mines, shape, seed, grade));
        ask.due(call + ", mended()", desk.mended(), slow.mended());
        for (int cell = 0; cell < w * h; cell++) {
            ask.due(call + ", mined(" + cell + ")", desk.mined(cell), slow.mined(cell));
        }
    }

    private static void compareMany() {
        ask.about("promises 4 and 5, against the slow desk");
        int[][] long40 = {
            {10, 10, 40, 2, 887092, 1}, {10, 10, 37, 2, 796276, 3}, {10, 10, 32, 0, 957621, 3},
            {9, 10, 33, 2, 498395, 3}, {10, 10, 26, 2, 475942, 2}, {10, 10, 33, 2, 30791, 2},
            {10, 10, 43, 2, 505166, 2}, {10, 9, 36, 2, 745381, 2}, {10, 10, 38, 2, 294461, 3},
            {10, 10, 20, 0, 888021, 1}, {10, 10, 25, 0, 584334, 1}, {10, 10, 27, 0, 815401, 2}, {10, 10, 28, 0, 349206, 3},
            {10, 9, 28, 2, 390443, 1}, {9, 10, 26, 2, 483523, 2}, {10, 10, 29, 0, 128917, 1}, {10, 10, 24, 0, 58736, 2},
            {10, 10, 24, 0, 993943, 3}, {9, 10, 27, 2, 787506, 1}, {10, 10, 24, 2, 674309, 2}, {9, 10, 29, 2, 123492, 3},
            {10, 10, 30, 0, 352197, 1}, {10, 10, 48, 1, 998669, 1}, {10, 10, 33, 1, 643514, 2},
        };
        for (int[] a : long40) {
            compare(a[0], a[1], a[2], a[3], a[4], a[5]);
        }
        java.util.Random draw = new java.util.Random(4);
        for (int i = 0; i < 3000; i++) {
            int w = 3 + draw.nextInt(8);
            int h = 3 + draw.nextInt(8);
            int mines = draw.nextInt(1 + w * h / 3);
            compare(w, h, mines, draw.nextInt(4), draw.nextInt(), 1 + draw.nextInt(3));
        }
    }

    public static void main(String[] args) {
        refusals();
        drawing();
        mending();
        givenUp();
        hintsClear();
        compareMany();
        ask.end();
    }
}
