/** Promises 9 to 15. */
public final class PlayTest {
    private static final Checks ask = new Checks();

    /** A board of 4 by 1 with a mine at 3 and 200 moves, all of them flags of cell 0, which stays without. */
    private static MineDesk full() {
        MineDesk desk = Checks.board(4, 1, 0, 3);
        desk.open(2);
        for (int i = 1; i < 199; i++) {
            desk.flag(0);
        }
        desk.flag(3);
        return desk;
    }

    private static void opening() {
        ask.about("promise 9");
        MineDesk desk = Checks.board(3, 3, 0, 0, 8);
        ask.due("open(-1)", desk.open(-1), MineDesk.NUMBER);
        ask.due("open(9)", desk.open(9), MineDesk.NUMBER);
        ask.due("open(4)", desk.open(4), 2);
        ask.due("open(4)", desk.open(4), MineDesk.STATE);
        ask.due("open(2)", desk.open(2), 0);
        ask.shown(desk, ".10.21...");
        ask.due("flag(3)", desk.flag(3), 1);
        ask.due("open(3), flagged", desk.open(3), MineDesk.STATE);
        ask.due("open(0)", desk.open(0), MineDesk.HIT);
        ask.due("open(0), blown", desk.open(0), MineDesk.STATE);
        ask.shown(desk, "*10F21...");
        ask.due("count(7)", desk.count(7), 4);
        ask.due("open(6)", desk.open(6), 0);
        ask.shown(desk, "*1012101.");
        ask.due("count(5), the flag went", desk.count(5), 0);
    }

    private static void flood() {
        ask.about("promise 9, numbers 0");
        MineDesk desk = Checks.board(10, 10, 0);
        ask.due("open(55)", desk.open(55), 0);
        ask.due("count(4)", desk.count(4), 100);
        desk = Checks.board(6, 1, 1, 3);
        ask.due("open(0)", desk.open(0), 0);
        ask.shown(desk, "001.10");
        desk = Checks.board(3, 3, 0, 0, 1, 2, 3, 5, 6, 7, 8);
        ask.due("open(4)", desk.open(4), 8);
        ask.due("shown(4)", desk.shown(4), 8);
    }

    private static void fullOpen() {
        ask.about("promises 9 to 12, 200 moves");
        MineDesk desk = full();
        ask.due("count(7)", desk.count(7), 200);
        ask.shown(desk, "..1F");
        ask.due("open(0)", desk.open(0), MineDesk.FULL);
        ask.due("open(4)", desk.open(4), MineDesk.NUMBER);
        ask.due("open(3)", desk.open(3), MineDesk.STATE);
        ask.due("flag(0)", desk.flag(0), MineDesk.FULL);
        ask.due("flag(-1)", desk.flag(-1), MineDesk.NUMBER);
        ask.due("flag(2)", desk.flag(2), MineDesk.STATE);
        ask.due("chord(2)", desk.chord(2), MineDesk.FULL);
        ask.due("chord(0)", desk.chord(0), MineDesk.STATE);
        ask.due("chord(4)", desk.chord(4), MineDesk.NUMBER);
        ask.shown(desk, "..1F");
        ask.due("count(7)", desk.count(7), 200);
        ask.due("undo()", desk.undo(), 1);
        ask.shown(desk, "..1.");
        ask.due("open(0)", desk.open(0), 0);
        ask.shown(desk, "001.");
        ask.due("count(7)", desk.count(7), 200);
        for (int i = 0; i < 200; i++) {
            ask.due("undo()", desk.undo(), 1);
        }
        ask.due("undo()", desk.undo(), MineDesk.STATE);
        ask.shown(desk, "....");
    }

    private static void flagging() {
        ask.about("promise 10");
        MineDesk desk = Checks.board(4, 1, 0, 3);
        ask.due("flag(-1)", desk.flag(-1), MineDesk.NUMBER);
        ask.due("flag(4)", desk.flag(4), MineDesk.NUMBER);
        ask.due("flag(1)", desk.flag(1), 1);
        ask.shown(desk, ".F..");
        ask.due("flag(1)", desk.flag(1), 0);
        ask.shown(desk, "....");
        ask.due("count(7)", desk.count(7), 2);
        desk.open(2);
        ask.due("flag(2), open", desk.flag(2), MineDesk.STATE);
        desk.open(3);
        ask.due("flag(3), blown", desk.flag(3), MineDesk.STATE);
        ask.due("count(7)", desk.count(7), 4);
    }

    private static void chords() {
        ask.about("promise 11");
        MineDesk desk = Checks.board(3, 1, 0, 2);
        ask.due("chord(1), hidden", desk.chord(1), MineDesk.STATE);
        ask.due("chord(3)", desk.chord(3), MineDesk.NUMBER);
        ask.due("chord(-1)", desk.chord(-1), MineDesk.NUMBER);
        desk.open(1);
        ask.due("chord(1), no flag", desk.chord(1), MineDesk.STATE);
        desk.flag(0);
        ask.due("chord(1), a wrong flag", desk.chord(1), 1);
        ask.shown(desk, "F1*");
        ask.due("count(6)", desk.count(6), 1);
        ask.due("chord(1), a flag and a blown one", desk.chord(1), MineDesk.STATE);
        desk.flag(0);
        ask.due("chord(1), a blown one", desk.chord(1), 1);
        ask.shown(desk, "01*");
        ask.due("chord(1), nothing left", desk.chord(1), 0);
        ask.due("count(7)", desk.count(7), 6);
        ask.due("chord(2), blown", desk.chord(2), MineDesk.STATE);
        ask.due("chord(0), number 0", desk.chord(0), 0);
        ask.due("count(7)", desk.count(7), 7);
        for (int i = 0; i < 4; i++) {
            desk.undo();
        }
        ask.shown(desk, "F1*");
        desk.undo();
        ask.shown(desk, "F1.");
    }

    private static void wideChord() {
        ask.about("promise 11, with numbers 0");
        MineDesk desk = Checks.board(5, 3, 0, 0);
        desk.open(6);
        desk.flag(0);
        desk.flag(9);
        ask.due("chord(6)", desk.chord(6), 13);
        ask.shown(desk, "F10001100000000");
        ask.due("undo()", desk.undo(), 1);
        ask.shown(desk, "F.....1..F.....");
        desk = Checks.board(5, 3, 0, 0);
        desk.open(6);
        // The wrong flag at 2 goes as 3 is opened by 7; the mine at 0 is blown ahead of that.
        desk.flag(2);
        ask.due("chord(6), a wrong flag", desk.chord(6), 14);
        ask.shown(desk, "*10001100000000");
        ask.due("undo()", desk.undo(), 1);
        ask.shown(desk, "..F...1........");
        ask.due("count(6)", desk.count(6), 0);
    }

    private static void undoing() {
        ask.about("promise 12");
        MineDesk desk = Checks.board(3, 3, 0);
        ask.due("undo()", desk.undo(), MineDesk.STATE);
        desk.flag(8);
        desk.flag(7);
        desk.flag(7);
        ask.due("open(0)", desk.open(0), 0);
        ask.shown(desk, "000000000");
        ask.due("count(5)", desk.count(5), 0);
        ask.due("undo()", desk.undo(), 1);
        ask.shown(desk, "........F");
        ask.due("count(4)", desk.count(4), 0);
        ask.due("count(5)", desk.count(5), 1);
        ask.due("undo()", desk.undo(), 1);
        ask.shown(desk, ".......FF");
        desk.undo();
        desk.undo();
        ask.shown(desk, ".........");
        ask.due("undo()", desk.undo(), MineDesk.STATE);
        desk.edit(0, true);
        desk.open(0);
        ask.due("open(0), blown", desk.open(0), MineDesk.STATE);
        ask.due("undo() of a hit", desk.undo(), 1);
        ask.shown(desk, ".........");
        ask.due("undo(), refused calls are no moves", desk.undo(), MineDesk.STATE);
    }

    private static void undoHits() {
        ask.about("promise 12, hits all over the board");
        MineDesk desk = Checks.board(10, 10, 0, 5, 15, 70, 80);
        int[] hits = {5, 70, 15, 80};
        for (int hit : hits) {
            ask.due("open(" + hit + ")", desk.open(hit), MineDesk.HIT);
        }
        for (int left = 3; left >= 0; left--) {
            ask.due("undo()", desk.undo(), 1);
            ask.due("count(6)", desk.count(6), left);
            for (int i = 0; i < 4; i++) {
                ask.due("shown(" + hits[i] + ")", desk.shown(hits[i]), i < left ? 11 : 9);
            }
        }
    }

    private static void undoKeepsHint() {
        ask.about("promise 12, the hint stays");
        MineDesk desk = Checks.board(4, 1, 0, 1);
        desk.open(0);
        desk.hint(1);
        desk.take();
        desk.undo();
        ask.reasons(desk, 1, false, 0);
        ask.due("tell(0, true)", desk.tell(0, true), 0);
    }

    private static void solving() {
        ask.about("promises 13 and 14");
        MineDesk desk = Checks.board(2, 1, 0, 0);
        ask.due("shown(-1)", desk.shown(-1), MineDesk.NUMBER);
        ask.due("shown(2)", desk.shown(2), MineDesk.NUMBER);
        ask.due("solved()", desk.solved(), false);
        desk.open(0);
        ask.shown(desk, "*.");
        ask.due("solved(), a blown one", desk.solved(), false);
        desk.flag(1);
        ask.shown(desk, "*F");
        ask.due("solved(), flagged", desk.solved(), false);
        desk.flag(1);
        desk.open(1);
        ask.shown(desk, "*1");
        ask.due("solved()", desk.solved(), true);
        desk = Checks.board(2, 1, 0, 0, 1);
        ask.due("solved(), mines alone", desk.solved(), true);
        desk = Checks.board(10, 10, 0);
        desk.edit(98, true);
        desk.open(0);
        ask.due("solved(), 99 is left", desk.solved(), false);
        desk.open(99);
        ask.due("solved()", desk.solved(), true);
    }

    private static void clicking() {
        ask.about("promise 15");
        MineDesk desk = Checks.board(5, 1, 0, 2);
        ask.due("clicks()", desk.clicks(), 2);
        desk.open(0);
        ask.due("clicks(), one heap left", desk.clicks(), 1);
        desk.flag(4);
        ask.due("clicks(), flagged", desk.clicks(), 1);
        desk = Checks.board(3, 3, 0, 4);
        ask.due("clicks(), no heap", desk.clicks(), 8);
        desk.open(0);
        ask.due("clicks()", desk.clicks(), 7);
        desk.open(4);
        ask.due("clicks(), a blown one", desk.clicks(), 7);
        desk = Checks.board(10, 10, 0);
        ask.due("clicks(), one heap", desk.clicks(), 1);
        desk.open(0);
        ask.due("clicks(), solved", desk.clicks(), 0);
        // Heaps 0 and 4, with 1, 3 and 5 beside them; 7 and 9 are beside none, but on a ring 9 is.
        desk = Checks.board(10, 1, 0, 2, 6, 8);
        ask.due("clicks(), heaps and others", desk.clicks(), 4);
        desk = Checks.board(10, 1, 1, 2, 6, 8);
        ask.due("clicks(), on a ring", desk.clicks(), 3);
        desk = Checks.board(10, 1, 0, 1, 3, 5);
        ask.due("clicks()", desk.clicks(), 4);
    }

    public static void main(String[] args) {
        opening();
        flood();
        fullOpen();
        flagging();
        chords();
        wideChord();
        undoing();
        undoHits();
        undoKeepsHint();
        solving();
        clicking();
        ask.end();
    }
}
