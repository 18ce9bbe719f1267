/** The sentences of part 1 of the terms about opening, and those of promises 9 to 15, that name a boundary case. */
public final class PlayEdgesTest {
    private static final Checks ask = new Checks();

    /** A board of 5 by 1 with a mine at 2 and so many moves, all of them at cell 4. */
    private static MineDesk moved(int moves) {
        MineDesk desk = Checks.board(5, 1, 0, 2);
        for (int i = 0; i < moves; i++) {
            desk.flag(4);
        }
        return desk;
    }

    private static void blows() {
        ask.sentence("Terms", "TO OPEN a HIDDEN cell: a MINED one becomes BLOWN.");
        MineDesk desk = Checks.board(3, 3, 0, 4);
        ask.due("open(4), whose own NUMBER is 0", desk.open(4), MineDesk.HIT);
        ask.shown(desk, "....*....");
        ask.due("count(4), nothing else is opened", desk.count(4), 0);
        ask.due("count(6)", desk.count(6), 1);
        ask.due("count(3), it is MINED still", desk.count(3), 1);
        ask.due("open(0), beside a BLOWN one", desk.open(0), 1);
    }

    private static void opens() {
        ask.sentence("Terms", "and if its NUMBER is 0, so does each HIDDEN NEIGHBOUR of it, and so on.");
        MineDesk desk = Checks.board(10, 10, 0);
        desk.open(0);
        ask.due("count(4), the whole board", desk.count(4), 100);
        desk = Checks.board(5, 1, 0, 2);
        desk.open(1);
        ask.shown(desk, ".1...");
        desk.open(0);
        ask.shown(desk, "01...");
        desk.open(4);
        ask.shown(desk, "01.10");
        desk = Checks.board(10, 1, 1, 5);
        desk.open(0);
        ask.shown(desk, "00001.1000");
        desk = Checks.board(10, 1, 0, 5);
        desk.open(0);
        ask.shown(desk, "00001.....");
        desk = Checks.board(4, 4, 2, 5);
        desk.open(0);
        ask.shown(desk, "01..1...........");
        // A way of cells with the number 0 through the whole board, three wide, around a wall of mines.
        desk = Checks.board(7, 10, 0, 3, 10, 17, 24, 31, 38, 45);
        desk.open(0);
        ask.due("count(4), around a wall", desk.count(4), 63);
        ask.sentence("Terms", "Another one becomes OPEN (its FLAG goes)");
        desk = Checks.board(5, 1, 0, 4);
        desk.flag(1);
        desk.flag(3);
        desk.flag(4);
        desk.open(0);
        ask.shown(desk, "0001F");
        ask.due("count(5)", desk.count(5), 1);
    }

    private static void openNumbers() {
        ask.sentence("Promise 9", "NUMBER: there is no such cell");
        MineDesk desk = Checks.board(10, 10, 0, 50);
        for (int cell : Checks.NO_CELLS) {
            ask.due("open(" + cell + ")", desk.open(cell), MineDesk.NUMBER);
        }
        ask.due("count(7)", desk.count(7), 0);
        desk.blank(3, 2, 0);
        ask.due("open(6), 6 cells", desk.open(6), MineDesk.NUMBER);
        ask.due("open(5), 6 cells", desk.open(5), 0);
    }

    private static void openStates() {
        ask.sentence("Promise 9", "STATE: it isn't HIDDEN, or it is FLAGGED");
        MineDesk desk = Checks.board(5, 1, 0, 1, 3);
        desk.open(0);
        ask.due("open(0), OPEN", desk.open(0), MineDesk.STATE);
        desk.open(1);
        ask.due("open(1), BLOWN", desk.open(1), MineDesk.STATE);
        desk.flag(3);
        ask.due("open(3), FLAGGED and MINED", desk.open(3), MineDesk.STATE);
        desk.flag(4);
        ask.due("open(4), FLAGGED and not MINED", desk.open(4), MineDesk.STATE);
        ask.shown(desk, "1*.FF");
        ask.due("count(7)", desk.count(7), 4);
        desk.flag(4);
        ask.due("open(4), FLAGGED no more", desk.open(4), 1);
        desk.flag(3);
        ask.due("open(3), FLAGGED no more", desk.open(3), MineDesk.HIT);
    }

    private static void hits() {
        ask.sentence("Promise 9", "A cell is opened: its NUMBER; HIT if it is MINED (it is BLOWN then: this isn't refused).");
        ask.due("open(0), NUMBER 0", Checks.board(1, 1, 0).open(0), 0);
        ask.due("open(4), NUMBER 8", Checks.board(3, 3, 0, 0, 1, 2, 3, 5, 6, 7, 8).open(4), 8);
        MineDesk desk = Checks.board(2, 1, 0, 0, 1);
        ask.due("open(1)", desk.open(1), MineDesk.HIT);
        ask.due("shown(1)", desk.shown(1), 11);
        ask.due("count(7), a hit is a move", desk.count(7), 1);
        ask.due("open(0), a second hit", desk.open(0), MineDesk.HIT);
        ask.due("count(6)", desk.count(6), 2);
        ask.due("undo()", desk.undo(), 1);
        ask.shown(desk, ".*");
    }

    private static void openFull() {
        ask.sentence("Promise 9", "FULL: 200 moves can be taken back.");
        MineDesk desk = moved(199);
        ask.due("open(0), the 200th move", desk.open(0), 0);
        ask.due("count(7)", desk.count(7), 200);
        ask.due("open(3), the 201st move", desk.open(3), MineDesk.FULL);
        ask.shown(desk, "01..F");
        desk = moved(199);
        ask.due("open(2), a hit, the 200th move", desk.open(2), MineDesk.HIT);
        ask.due("count(7)", desk.count(7), 200);
        ask.due("undo()", desk.undo(), 1);
        ask.shown(desk, "....F");
        desk = moved(200);
        ask.due("open(2), MINED, the 201st move", desk.open(2), MineDesk.FULL);
        ask.due("open(0), the 201st move", desk.open(0), MineDesk.FULL);
        ask.shown(desk, ".....");
        ask.due("count(7)", desk.count(7), 200);
        desk.undo();
        ask.due("open(0), after undo()", desk.open(0), 0);
        ask.due("open(1), OPEN, at 200 moves", desk.open(1), MineDesk.STATE);
        ask.due("open(4), FLAGGED, at 200 moves", desk.open(4), MineDesk.STATE);
        ask.due("open(5), at 200 moves", desk.open(5), MineDesk.NUMBER);
    }

    private static void flagNumbers() {
        ask.sentence("Promise 10", "NUMBER: there is no such cell");
        MineDesk desk = Checks.board(10, 10, 0, 50);
        for (int cell : Checks.NO_CELLS) {
            ask.due("flag(" + cell + ")", desk.flag(cell), MineDesk.NUMBER);
        }
        ask.due("count(5)", desk.count(5), 0);
        ask.due("count(7)", desk.count(7), 0);
        desk.blank(3, 2, 0);
        ask.due("flag(6), 6 cells", desk.flag(6), MineDesk.NUMBER);
        ask.due("flag(5), 6 cells", desk.flag(5), 1);
        ask.sentence("Promise 10", "STATE: it isn't HIDDEN");
        desk = Checks.board(5, 1, 0, 1);
        desk.open(0);
        desk.open(1);
        ask.due("flag(0), OPEN", desk.flag(0), MineDesk.STATE);
        ask.due("flag(1), BLOWN", desk.flag(1), MineDesk.STATE);
        ask.shown(desk, "1*...");
        ask.due("count(7)", desk.count(7), 2);
    }

    private static void flags() {
        ask.sentence("Promise 10", "A HIDDEN cell is FLAGGED, or not any more: 1, 0.");
        MineDesk desk = Checks.board(10, 10, 0, 0);
        for (int cell = 0; cell < 100; cell++) {
            ask.due("flag(" + cell + ")", desk.flag(cell), 1);
        }
        ask.due("count(5), all of them", desk.count(5), 100);
        for (int cell = 99; cell >= 0; cell--) {
            ask.due("flag(" + cell + ")", desk.flag(cell), 0);
        }
        ask.due("count(5), none of them", desk.count(5), 0);
        ask.sentence("Promise 10", "FULL: 200 moves can be taken back.");
        ask.due("count(7)", desk.count(7), 200);
        ask.due("flag(0), the 201st move", desk.flag(0), MineDesk.FULL);
        ask.due("shown(0)", desk.shown(0), 9);
        desk.undo();
        ask.due("shown(0)", desk.shown(0), 10);
        ask.due("flag(0), the 200th move", desk.flag(0), 0);
        desk = moved(199);
        desk.open(0);
        ask.due("flag(4), not any more, the 201st move", desk.flag(4), MineDesk.FULL);
        ask.due("shown(4)", desk.shown(4), 10);
        ask.due("flag(0), OPEN, at 200 moves", desk.flag(0), MineDesk.STATE);
        ask.due("flag(5), at 200 moves", desk.flag(5), MineDesk.NUMBER);
    }

    private static void chordNumbers() {
        ask.sentence("Promise 11", "NUMBER: there is no such cell");
        MineDesk desk = Checks.board(10, 10, 0, 50);
        for (int cell : Checks.NO_CELLS) {
            ask.due("chord(" + cell + ")", desk.chord(cell), MineDesk.NUMBER);
        }
        desk.blank(3, 2, 0);
        ask.due("chord(6), 6 cells", desk.chord(6), MineDesk.NUMBER);
        ask.sentence("Promise 11", "STATE: it isn't OPEN");
        ask.due("chord(5), HIDDEN, NUMBER 0, no flag", desk.chord(5), MineDesk.STATE);
        desk = Checks.board(3, 1, 0, 1);
        desk.flag(0);
        ask.due("chord(0), FLAGGED", desk.chord(0), MineDesk.STATE);
        desk.open(1);
        ask.due("chord(1), BLOWN, NUMBER 0, a flag next to it", desk.chord(1), MineDesk.STATE);
        desk.flag(0);
        ask.due("chord(1), BLOWN, NUMBER 0, no flag", desk.chord(1), MineDesk.STATE);
        ask.due("chord(2), HIDDEN, NUMBER 1, next to a BLOWN one", desk.chord(2), MineDesk.STATE);
        ask.shown(desk, ".*.");
    }

    private static void chordFlags() {
        ask.sentence("Promise 11", "or its FLAGGED and BLOWN NEIGHBOURS together aren't as many as its NUMBER");
        MineDesk desk = Checks.board(3, 3, 0, 0, 1, 2);
        desk.open(4);
        ask.due("chord(4), none of 3", desk.chord(4), MineDesk.STATE);
        desk.flag(0);
        desk.open(1);
        ask.due("chord(4), 2 of 3", desk.chord(4), MineDesk.STATE);
        desk.flag(2);
        desk.flag(8);
        ask.due("chord(4), 4 of 3", desk.chord(4), MineDesk.STATE);
        ask.shown(desk, "F*F.3...F");
        desk.flag(8);
        ask.due("chord(4), 3 of 3, two flags and a BLOWN one", desk.chord(4), 5);
        ask.shown(desk, "F*F232000");
        desk = Checks.board(5, 1, 0, 1);
        desk.flag(4);
        desk.open(2);
        ask.due("chord(2), a flag that isn't next to it", desk.chord(2), MineDesk.STATE);
        // All eight are flagged: nothing is opened, but it isn't refused.
        desk = Checks.board(3, 3, 0, 0, 1, 2, 3, 5, 6, 7, 8);
        desk.open(4);
        int[] around = {0, 1, 2, 3, 5, 6, 7, 8};
        for (int cell : around) {
            ask.due("chord(4), flags missing", desk.chord(4), MineDesk.STATE);
            desk.flag(cell);
        }
        ask.due("chord(4), 8 of 8", desk.chord(4), 0);
        ask.due("count(7)", desk.count(7), 10);
        desk = Checks.board(3, 1, 0, 0, 2);
        desk.open(1);
        desk.open(0);
        desk.open(2);
        ask.due("chord(1), BLOWN ones alone", desk.chord(1), 0);
    }

    private static void chordOpens() {
        ask.sentence("Promise 11", "All NEIGHBOURS of an OPEN cell that are HIDDEN and not FLAGGED as the call begins are opened, by numbers");
        MineDesk desk = Checks.board(3, 3, 0, 0, 2, 6, 8);
        desk.open(4);
        for (int cell = 1; cell <= 7; cell += 2) {
            desk.flag(cell);
        }
        ask.due("chord(4), all flags wrong", desk.chord(4), 4);
        ask.shown(desk, "*F*F4F*F*");
        // 2 and 6 have the number 0, and so the wrong flags at 1 and 3 go.
        desk = Checks.board(3, 3, 0, 0, 8);
        desk.open(4);
        desk.flag(1);
        desk.flag(3);
        ask.due("chord(4), both flags wrong", desk.chord(4), 8);
        ask.shown(desk, "*1012101*");
        desk = Checks.board(5, 4, 1, 6, 19);
        desk.open(0);
        desk.flag(6);
        desk.flag(19);
        ask.due("shown(0), a ring", desk.shown(0), 2);
        ask.due("chord(0), a ring", desk.chord(0) >= 6, true);
        ask.due("shown(15), a ring", desk.shown(15) <= 8, true);
        ask.due("shown(9), a ring", desk.shown(9) <= 8, true);
        ask.due("count(6)", desk.count(6), 0);
    }

    private static void chordPasses() {
        ask.sentence("Promise 11", "(one that is OPEN by then is passed over)");
        // 1 has the number 0 and takes 2, 5, 6, 7 and more with it, and those must not be opened once more.
        MineDesk desk = Checks.board(3, 4, 0, 9);
        desk.open(7);
        desk.flag(9);
        ask.due("chord(7)", desk.chord(7), 10);
        ask.shown(desk, "000000110F10");
        ask.due("count(7)", desk.count(7), 3);
        ask.due("undo()", desk.undo(), 1);
        ask.shown(desk, ".......1.F..");
        ask.sentence("Promise 11", "how many cells are HIDDEN no more by that (BLOWN ones, too).");
        desk = Checks.board(5, 1, 0, 0, 2);
        desk.open(1);
        desk.open(3);
        desk.flag(4);
        ask.due("chord(3), a BLOWN one", desk.chord(3), 1);
        ask.shown(desk, ".2*1F");
        desk = Checks.board(4, 1, 0, 3);
        desk.flag(3);
        desk.open(2);
        ask.due("chord(2), more than its neighbours", desk.chord(2), 2);
        ask.shown(desk, "001F");
        ask.due("chord(2), nothing left", desk.chord(2), 0);
        ask.due("chord(0), NUMBER 0", desk.chord(0), 0);
        ask.due("count(7)", desk.count(7), 5);
        // The flag of a neighbour goes by what is opened around it, and it is HIDDEN no more then.
        desk = Checks.board(5, 3, 0, 0);
        desk.open(6);
        desk.flag(2);
        ask.due("chord(6), a flag goes", desk.chord(6), 14);
        ask.due("count(5)", desk.count(5), 0);
    }

    private static void chordFull() {
        ask.sentence("Promise 11", "FULL: 200 moves can be taken back.");
        MineDesk desk = Checks.board(5, 1, 0, 2);
        desk.open(1);
        desk.flag(2);
        for (int i = 0; i < 198; i++) {
            desk.flag(4);
        }
        ask.due("chord(1), the 201st move", desk.chord(1), MineDesk.FULL);
        ask.shown(desk, ".1F..");
        ask.due("count(7)", desk.count(7), 200);
        ask.due("chord(0), HIDDEN, at 200 moves", desk.chord(0), MineDesk.STATE);
        ask.due("chord(5), at 200 moves", desk.chord(5), MineDesk.NUMBER);
        desk.undo();
        ask.due("chord(1), the 200th move", desk.chord(1), 1);
        ask.shown(desk, "01F.F");
        ask.due("count(7)", desk.count(7), 200);
        ask.due("chord(1), nothing left, the 201st move", desk.chord(1), MineDesk.FULL);
    }

    private static void undoes() {
        ask.sentence("Promise 12", "The latest open(), flag() or chord() that wasn't refused is taken back, with all FLAGS that went by it: 1.");
        MineDesk desk = Checks.board(5, 2, 0, 0);
        desk.flag(0);
        desk.flag(9);
        desk.flag(3);
        desk.open(1);
        desk.chord(1);
        ask.shown(desk, "F100011000");
        desk.open(1);
        desk.flag(1);
        ask.due("undo(), the chord", desk.undo(), 1);
        ask.shown(desk, "F1.F.....F");
        ask.due("undo(), the open", desk.undo(), 1);
        ask.shown(desk, "F..F.....F");
        ask.due("undo(), a flag", desk.undo(), 1);
        ask.shown(desk, "F........F");
        desk.flag(9);
        ask.shown(desk, "F.........");
        ask.due("undo(), a flag that went", desk.undo(), 1);
        ask.shown(desk, "F........F");
        desk.open(4);
        ask.shown(desk, "F1000.1000");
        ask.due("undo(), an open with a flag", desk.undo(), 1);
        ask.shown(desk, "F........F");
        ask.due("count(5)", desk.count(5), 2);
        ask.due("count(4)", desk.count(4), 0);
        // What was BLOWN and OPEN ahead of the move stays so.
        desk = Checks.board(5, 1, 0, 0, 4);
        desk.open(0);
        desk.open(1);
        desk.flag(2);
        desk.undo();
        ask.shown(desk, "*1...");
        ask.due("open(0), BLOWN still", desk.open(0), MineDesk.STATE);
        ask.due("flag(0), BLOWN still", desk.flag(0), MineDesk.STATE);
        ask.due("with(0), BLOWN still", desk.with(0), MineDesk.STATE);
        ask.due("open(1), OPEN still", desk.open(1), MineDesk.STATE);
        ask.due("ways(), one mine of two cells", desk.ways(), 2);
    }

    private static void undoLarge() {
        ask.about("Promise 12, on the largest board");
        MineDesk desk = Checks.board(10, 10, 0, 9, 63, 64, 90);
        int[] hits = {9, 90, 63, 64};
        for (int hit : hits) {
            desk.open(hit);
        }
        desk.flag(0);
        desk.flag(99);
        desk.flag(62);
        desk.open(5);
        ask.due("count(4)", desk.count(4), 96);
        ask.due("count(5)", desk.count(5), 0);
        ask.due("undo()", desk.undo(), 1);
        ask.due("count(4)", desk.count(4), 0);
        ask.due("count(5)", desk.count(5), 3);
        for (int cell = 0; cell < 100; cell++) {
            int due = cell == 0 || cell == 99 || cell == 62 ? 10 : desk.mined(cell) ? 11 : 9;
            ask.due("shown(" + cell + ")", desk.shown(cell), due);
        }
        for (int i = 0; i < 3; i++) {
            desk.undo();
        }
        ask.due("count(5)", desk.count(5), 0);
        for (int left = 3; left >= 0; left--) {
            ask.due("undo(), a hit", desk.undo(), 1);
            ask.due("count(6)", desk.count(6), left);
            ask.due("shown(" + hits[left] + ")", desk.shown(hits[left]), 9);
        }
        ask.due("undo()", desk.undo(), MineDesk.STATE);
    }

    private static void undoNone() {
        ask.sentence("Promise 12", "STATE: there is none.");
        MineDesk desk = new MineDesk();
        ask.due("undo(), new", desk.undo(), MineDesk.STATE);
        desk.blank(3, 1, 0);
        desk.edit(0, true);
        ask.due("undo(), edit() is no move", desk.undo(), MineDesk.STATE);
        ask.due("mined(0)", desk.mined(0), true);
        desk.open(3);
        desk.chord(0);
        ask.due("undo(), refused calls are no moves", desk.undo(), MineDesk.STATE);
        desk.open(0);
        ask.due("undo(), a hit", desk.undo(), 1);
        ask.due("undo(), it is taken back once", desk.undo(), MineDesk.STATE);
        desk.flag(0);
        desk.blank(3, 1, 0);
        ask.due("undo(), after blank()", desk.undo(), MineDesk.STATE);
        desk.flag(0);
        desk.make(3, 1, 0, 0, 0, 1);
        ask.due("undo(), after make()", desk.undo(), MineDesk.STATE);
        ask.shown(desk, "...");
        desk = moved(200);
        for (int i = 199; i >= 0; i--) {
            ask.due("undo(), all 200", desk.undo(), 1);
            if (i % 10 < 2) {
                ask.due("shown(4)", desk.shown(4), i % 2 == 1 ? 10 : 9);
            }
        }
        ask.due("undo(), the 201st", desk.undo(), MineDesk.STATE);
    }

    private static void shows() {
        ask.sentence("Terms", "A cell is HIDDEN (at first), OPEN, or BLOWN (a MINED one that was opened); a HIDDEN one may be FLAGGED.");
        ask.sentence("Promise 13", "0 .. 8 its NUMBER (OPEN), 9 HIDDEN, 10 FLAGGED, 11 BLOWN.");
        MineDesk desk = Checks.board(3, 3, 0, 0, 1, 2, 3, 5, 6, 7, 8);
        ask.shown(desk, ".........");
        desk.flag(4);
        desk.open(0);
        ask.shown(desk, "*...F....");
        desk.flag(4);
        desk.open(4);
        ask.shown(desk, "*...8....");
        ask.due("shown(0), NUMBER 0", Checks.opened(Checks.board(1, 1, 0), 0).shown(0), 0);
        ask.sentence("Promise 13", "NUMBER: there is no such cell.");
        ask.due("shown(9), 9 cells", desk.shown(9), MineDesk.NUMBER);
        desk.blank(10, 10, 0);
        for (int cell : Checks.NO_CELLS) {
            ask.due("shown(" + cell + ")", desk.shown(cell), MineDesk.NUMBER);
        }
        ask.due("shown(99)", desk.shown(99), 9);
    }

    private static void solves() {
        ask.sentence("Terms", "The BOARD is SOLVED if no cell that isn't MINED is HIDDEN.");
        ask.sentence("Promise 14", "Whether the BOARD is SOLVED.");
        ask.due("solved(), no mine, all HIDDEN", Checks.board(3, 3, 0).solved(), false);
        ask.due("solved(), no mine, all OPEN", Checks.opened(Checks.board(3, 3, 0), 0).solved(), true);
        ask.due("solved(), mines alone, all HIDDEN", Checks.board(1, 1, 0, 0).solved(), true);
        ask.due("solved(), mines alone, BLOWN", Checks.opened(Checks.board(1, 1, 0, 0), 0).solved(), true);
        MineDesk desk = Checks.board(3, 1, 0, 1);
        ask.due("solved(), one of two", Checks.opened(desk, 0).solved(), false);
        desk.flag(1);
        desk.flag(2);
        ask.due("solved(), the other one is FLAGGED", desk.solved(), false);
        desk.flag(2);
        desk.flag(1);
        ask.due("solved(), two of two, the mine isn't FLAGGED", Checks.opened(desk, 2).solved(), true);
        desk.open(1);
        ask.due("solved(), the mine is BLOWN", desk.solved(), true);
        desk.undo();
        desk.undo();
        ask.due("solved(), taken back", desk.solved(), false);
        desk = Checks.board(10, 10, 0, 62, 98);
        desk.open(0);
        ask.due("solved(), 99 is left", desk.solved(), false);
        ask.due("solved()", Checks.opened(desk, 99).solved(), true);
    }

    private static void clickHeaps() {
        ask.sentence("Promise 15", "one for each heap of HIDDEN cells that aren't MINED and have the NUMBER 0 (heaps hang together by NEIGHBOURS)");
        ask.due("clicks(), no mine", Checks.board(10, 10, 0).clicks(), 1);
        ask.due("clicks(), mines alone", Checks.board(2, 1, 0, 0, 1).clicks(), 0);
        ask.due("clicks(), one cell", Checks.board(1, 1, 0).clicks(), 1);
        ask.due("clicks(), a mine whose own NUMBER is 0", Checks.board(1, 1, 0, 0).clicks(), 0);
        ask.due("clicks(), SOLVED", Checks.opened(Checks.board(4, 4, 0), 0).clicks(), 0);
        // 0, 1, 4, 5 and 10, 11, 14, 15 hang together by 5 and 10 alone.
        ask.due("clicks(), by a corner", Checks.board(4, 4, 0, 3, 12).clicks(), 1);
        ask.due("clicks(), two heaps", Checks.board(5, 1, 0, 2).clicks(), 2);
        ask.due("clicks(), one heap around a ring", Checks.board(5, 1, 1, 2).clicks(), 1);
        // A wall of mines with a gap at its end, and one without.
        ask.due("clicks(), around a wall", Checks.board(7, 10, 0, 3, 10, 17, 24, 31, 38, 45).clicks(), 1);
        ask.due("clicks(), on both sides of a wall", Checks.board(7, 7, 0, 3, 10, 17, 24, 31, 38, 45).clicks(), 2);
        ask.due("clicks(), on both sides of a wall on a ring", Checks.board(7, 7, 1, 3, 10, 17, 24, 31, 38, 45).clicks(), 1);
        MineDesk desk = Checks.board(9, 1, 0, 2, 6);
        ask.due("clicks(), three heaps", desk.clicks(), 3);
        desk.flag(4);
        ask.due("clicks(), FLAGGED is HIDDEN", desk.clicks(), 3);
        desk.open(3);
        ask.due("clicks(), a cell beside a heap is OPEN", desk.clicks(), 3);
        desk.open(0);
        ask.due("clicks(), a heap is OPEN", desk.clicks(), 2);
        desk.undo();
        ask.due("clicks(), taken back", desk.clicks(), 3);
    }

    private static void clickOthers() {
        ask.sentence("Promise 15", "and one for each other HIDDEN cell that isn't MINED and has no NEIGHBOUR in a heap");
        ask.due("clicks(), no heap", Checks.board(3, 3, 0, 4).clicks(), 8);
        ask.due("clicks(), no heap around a BLOWN one", Checks.opened(Checks.board(3, 3, 0, 4), 4).clicks(), 8);
        // The heaps 0 and 4; 1, 3 and 5 are beside them, 7 and 9 beside none.
        MineDesk desk = Checks.board(10, 1, 0, 2, 6, 8);
        ask.due("clicks()", desk.clicks(), 4);
        desk.open(7);
        ask.due("clicks(), one of these is OPEN", desk.clicks(), 3);
        desk.open(8);
        ask.due("clicks(), a BLOWN one is MINED still", desk.clicks(), 3);
        desk.flag(9);
        ask.due("clicks(), FLAGGED is HIDDEN", desk.clicks(), 3);
        ask.due("clicks(), beside a heap of one cell", Checks.board(3, 1, 0, 2).clicks(), 1);
        ask.due("clicks(), beside no heap", Checks.board(2, 1, 0, 1).clicks(), 1);
    }

    public static void main(String[] args) {
        blows();
        opens();
        openNumbers();
        openStates();
        hits();
        openFull();
        flagNumbers();
        flags();
        chordNumbers();
        chordFlags();
        chordOpens();
        chordPasses();
        chordFull();
        undoes();
        undoLarge();
        undoNone();
        shows();
        solves();
        clickHeaps();
        clickOthers();
        ask.end();
    }
}
