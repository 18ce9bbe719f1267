/** All that the calls tell of a desk, so that two desks can be compared; it uses the desk up. */
final class Portrait {
    private Portrait() {
    }

    /** Some 20 calls and 7 for each cell, so that a board of 50 cells leaves room for 140 calls ahead of it. */
    static String of(MineDesk desk) {
        StringBuilder text = new StringBuilder();
        int cells = desk.count(0) * desk.count(1);
        text.append("counts");
        for (int what = 0; what < 8; what++) {
            text.append(' ').append(desk.count(what));
        }
        text.append(" mended ").append(desk.mended());
        text.append(" kind ").append(desk.kind()).append(desk.total() ? " total" : "").append(" reasons");
        for (int i = 0, reason = desk.reason(0); reason >= 0 && i < 100; reason = desk.reason(++i)) {
            text.append(' ').append(reason);
        }
        text.append(" told");
        if (desk.name(true) == 0) {
            text.append(" TOTAL");
        }
        for (int cell = 0; cell < cells; cell++) {
            if (desk.tell(cell, true) == 0) {
                text.append(' ').append(cell);
            }
        }
        text.append(" cells");
        for (int cell = 0; cell < cells; cell++) {
            text.append(' ').append(desk.mined(cell) ? "m" : "").append(desk.shown(cell));
        }
        return text.append(trail(desk, cells)).toString();
    }

    /** What the latest moves took, one letter a cell. */
    private static String trail(MineDesk desk, int cells) {
        StringBuilder text = new StringBuilder(" back");
        for (int move = 0; move < 3 && desk.undo() == 1; move++) {
            text.append(' ');
            for (int cell = 0; cell < cells; cell++) {
                text.append((char) ('a' + desk.shown(cell)));
            }
        }
        return text.toString();
    }
}
