/** Counts and prints the calls whose answer isn't the one that is due. */
final class Checks {
    /** No cells of a board of any size. */
    static final int[] NO_CELLS = {
        -1, -2, -63, -64, -65, -100, -128, 100, 101, 127, 128, 164, 256, 1 << 16, Integer.MIN_VALUE, Integer.MIN_VALUE + 1,
        Integer.MAX_VALUE,
    };
    private String part = "";
    private int asked;
    private int wrong;

    /** What the calls from here on are about. */
    void about(String name) {
        part = name;
    }

    /** The calls from here on are about these words of a section of the document. */
    void sentence(String section, String words) {
        part = section + ", \"" + words + "\"";
        due("the document says so", Doc.says(section, words), true);
    }

    void due(String call, long got, long due) {
        asked++;
        if (got != due) {
            wrong++;
            System.out.println(part + ": " + call + " answered " + got + ", due is " + due);
        }
    }

    void due(String call, boolean got, boolean due) {
        due(call, got ? 1L : 0L, due ? 1L : 0L);
    }

    /** The neighbours of a cell are these, and no others. */
    void neighbours(MineDesk desk, int cell, int... due) {
        for (int i = 0; i < due.length; i++) {
            due("neighbour(" + cell + ", " + i + ")", desk.neighbour(cell, i), due[i]);
        }
        due("neighbour(" + cell + ", " + due.length + ")", desk.neighbour(cell, due.length), MineDesk.NUMBER);
    }

    /** The mines are these, and no others. */
    void mines(MineDesk desk, int... due) {
        int cells = desk.count(0) * desk.count(1);
        for (int cell = 0; cell < cells; cell++) {
            boolean mined = false;
            for (int one : due) {
                mined |= one == cell;
            }
            due("mined(" + cell + ")", desk.mined(cell), mined);
        }
        due("count(3)", desk.count(3), due.length);
    }

    /** The latest hint has this kind, and these reasons and no others. */
    void reasons(MineDesk desk, int kind, boolean total, int... due) {
        due("kind()", desk.kind(), kind);
        due("total()", desk.total(), total);
        for (int i = 0; i < due.length; i++) {
            due("reason(" + i + ")", desk.reason(i), due[i]);
        }
        due("reason(" + due.length + ")", desk.reason(due.length), -1);
        due("reason(-1)", desk.reason(-1), -1);
    }

    /** What a player sees, cell by cell: digits, '.' hidden, 'F' flagged, '*' blown. */
    void shown(MineDesk desk, String due) {
        for (int cell = 0; cell < due.length(); cell++) {
            char c = due.charAt(cell);
            int want = c == '.' ? 9 : c == 'F' ? 10 : c == '*' ? 11 : c - '0';
            due("shown(" + cell + ")", desk.shown(cell), want);
        }
        due("shown(" + due.length() + ")", desk.shown(due.length()), MineDesk.NUMBER);
    }

    /** Ends the test. */
    void end() {
        System.out.println(wrong == 0 ? asked + " answers are as due" : wrong + " answers are not as due");
        System.exit(wrong == 0 ? 0 : 1);
    }

    /** A blank board with some mines. */
    static MineDesk board(int w, int h, int shape, int... mines) {
        MineDesk desk = new MineDesk();
        desk.blank(w, h, shape);
        for (int mine : mines) {
            desk.edit(mine, true);
        }
        return desk;
    }

    /** The desk, after some cells were opened. */
    static MineDesk opened(MineDesk desk, int... cells) {
        for (int cell : cells) {
            desk.open(cell);
        }
        return desk;
    }

    /** A line with a mine, opened and flagged, with a hint, and told reasons of which TOTAL is one. */
    static MineDesk used() {
        MineDesk desk = opened(board(4, 1, 0, 1), 0);
        desk.flag(1);
        desk.hint(3);
        desk.take();
        desk.tell(3, true);
        return desk;
    }
}
