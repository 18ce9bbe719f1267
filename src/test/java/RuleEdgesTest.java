/** The sentences of part 2 of the terms and of promises 16 to 19 that name a boundary case, one by one. */
public final class RuleEdgesTest {
    private static final int MIN = Integer.MIN_VALUE;
    private static final int MAX = Integer.MAX_VALUE;
    private static final Checks ask = new Checks();

    private static void flag(MineDesk desk, int... cells) {
        for (int cell : cells) {
            desk.flag(cell);
        }
    }

    private static void noHint(String about, MineDesk desk, int upTo) {
        for (int grade = 1; grade <= upTo; grade++) {
            ask.due("hint(" + grade + "), " + about, desk.hint(grade), 0);
            ask.reasons(desk, 0, false);
        }
    }

    private static void ruleOneSome() {
        ask.sentence("Terms", "RULE 1 of an OPEN cell a with some U(a)");
        noHint("an OPEN cell alone", Checks.opened(Checks.board(1, 1, 0), 0), 3);
        noHint("all OPEN", Checks.opened(Checks.board(10, 10, 0), 0), 3);
        noHint("the only NEIGHBOUR is BLOWN", Checks.opened(Checks.board(2, 1, 0, 1), 0, 1), 3);
        noHint("all BLOWN", Checks.opened(Checks.board(2, 1, 0, 0, 1), 0, 1), 3);
        noHint("none is OPEN", Checks.board(3, 1, 0, 1), 2);
        noHint("BLOWN ones have no NUMBER", Checks.opened(Checks.board(3, 1, 0, 1), 1), 2);
    }

    private static void ruleOneZero() {
        ask.sentence("Terms", "if D(a) is 0, all of U(a) are SAFE");
        MineDesk desk = Checks.opened(Checks.board(3, 1, 0, 0), 0, 1);
        ask.due("hint(1), the mine is BLOWN", desk.hint(1), 5);
        ask.reasons(desk, 1, false, 1);
        desk = Checks.opened(Checks.board(3, 3, 0, 8), 8, 4);
        ask.due("hint(1), 7 SAFE ones, the first", desk.hint(1), 1);
        noHint("one of two", Checks.opened(Checks.board(3, 1, 0, 0), 1), 2);
        ask.sentence("Terms", "if D(a) is as many as U(a), all are MINED");
        desk = Checks.opened(Checks.board(3, 3, 0, 0, 1, 2, 3, 5, 6, 7, 8), 4);
        int[] around = {0, 1, 2, 3, 5, 6, 7, 8};
        for (int cell : around) {
            ask.due("hint(1), 8 of 8, from " + cell + " on", desk.hint(1), 2 * cell + 2);
            ask.reasons(desk, 1, false, 4);
            flag(desk, cell);
        }
        noHint("8 of 8, all FLAGGED", desk, 3);
        desk = Checks.opened(Checks.board(3, 3, 0, 0, 1, 2, 3, 5, 6, 7), 4);
        noHint("7 of 8", desk, 3);
        desk.open(0);
        noHint("6 of 7, and a BLOWN one", desk, 3);
        desk.open(8);
        ask.due("hint(1), 6 of 6, and a BLOWN one", desk.hint(1), 4);
        ask.reasons(desk, 1, false, 4);
        ask.sentence("Terms", "U(a) are its HIDDEN NEIGHBOURS without a VERDICT; D(a) is its NUMBER less its NEIGHBOURS that are BLOWN "
            + "or have the VERDICT MINED");
        // A flag is no verdict: a wrong one changes no rule.
        desk = Checks.opened(Checks.board(3, 1, 0, 0), 1);
        flag(desk, 2);
        noHint("a wrong flag", desk, 3);
        flag(desk, 0);
        noHint("a wrong flag and a right one", desk, 3);
    }

    private static void ruleOneOrder() {
        ask.sentence("Terms", "RULE 1 of the cells, by numbers");
        // 4 has 8 and 9, 10 has 5, 6 and 11, all MINED: 4 comes first, though 5 is less than 8.
        MineDesk desk = Checks.opened(Checks.board(5, 3, 0, 5, 6, 8, 9, 11), 3, 4, 10);
        ask.due("hint(1)", desk.hint(1), 18);
        ask.reasons(desk, 1, false, 4);
        ask.sentence("Terms", "If one of these VERDICTS is SAFE, or MINED of a cell that isn't FLAGGED, the first such one, by cells, is the HINT");
        flag(desk, 8);
        ask.due("hint(1), 8 is FLAGGED", desk.hint(1), 20);
        ask.reasons(desk, 1, false, 4);
        ask.sentence("Terms", "Else one goes on with the VERDICTS, from RULE 1 on.");
        flag(desk, 9);
        ask.due("hint(1), 9 too: 3 has no more mines", desk.hint(1), 5);
        ask.reasons(desk, 1, false, 3, 4);
        flag(desk, 2);
        ask.due("hint(1), SAFE of a FLAGGED cell", desk.hint(1), 5);
        ask.sentence("Terms", "REASONS: a, and those of all VERDICTS of its NEIGHBOURS.");
        // 0 tells 1, that tells 3 by 2, and that 5 by 4: each has the reasons of the one before.
        desk = Checks.opened(Checks.board(7, 1, 0, 1, 5), 0, 2, 3, 4);
        flag(desk, 1);
        ask.due("hint(1), 1 is FLAGGED", desk.hint(1), 12);
        ask.reasons(desk, 1, false, 4);
        desk = Checks.opened(Checks.board(7, 1, 0, 1, 3, 5), 0, 2, 4);
        flag(desk, 1, 3);
        ask.due("hint(1), 1 and 3 are FLAGGED", desk.hint(1), 12);
        ask.reasons(desk, 1, false, 0, 2, 4);
        // SAFE verdicts have reasons, too; but they are the hint, so only those of MINED ones are gone through.
        desk.open(5);
        desk.open(6);
        noHint("a BLOWN one needs no reason, and is told", desk, 3);
    }

    private static void ruleTwoInside() {
        ask.sentence("Terms", "RULE 2 of two OPEN cells a and b with some U(a), all of which are in U(b), and more in U(b)");
        // 1 has 0 and 2, 3 has 2 and 4: not all of the one are in the other.
        MineDesk desk = Checks.opened(Checks.board(5, 1, 0, 2), 1, 3);
        noHint("not all of them", desk, 2);
        ask.due("hint(3), not all of them", desk.hint(3), 1);
        ask.reasons(desk, 3, true, 1, 3);
        // 2 and 3 have 0 and 1 both.
        noHint("no more in U(b)", Checks.opened(Checks.board(2, 4, 0, 0), 7), 3);
        ask.sentence("Terms", "if D(b) - D(a) is 0, the others of U(b) are SAFE");
        desk = Checks.opened(Checks.board(4, 2, 0, 1), 4, 5);
        noHint("grade 1 has no RULE 2", desk, 1);
        ask.due("hint(2), 0 of 2", desk.hint(2), 5);
        ask.reasons(desk, 2, false, 4, 5);
        ask.sentence("Terms", "if it is as many as these, they are MINED");
        noHint("1 of 2", Checks.opened(Checks.board(4, 2, 0, 1, 2), 4, 5), 2);
        noHint("1 of 2", Checks.opened(Checks.board(4, 2, 0, 1, 6), 4, 5), 2);
        desk = Checks.opened(Checks.board(4, 2, 0, 0, 2, 6), 4, 5);
        noHint("grade 1 has no RULE 2", desk, 1);
        ask.due("hint(2), 2 of 2", desk.hint(2), 6);
        ask.reasons(desk, 2, false, 4, 5);
        flag(desk, 2);
        ask.due("hint(2), 2 is FLAGGED", desk.hint(2), 14);
        ask.reasons(desk, 2, false, 4, 5);
        // 2 has 1 and 5, and 4 has 0 besides, as 3 is OPEN or BLOWN.
        desk = Checks.opened(Checks.board(3, 2, 0, 1), 2, 3, 4);
        ask.due("hint(2), 0 of 1", desk.hint(2), 1);
        ask.reasons(desk, 2, false, 2, 4);
        desk = Checks.opened(Checks.board(3, 2, 0, 0, 1, 3), 2, 3, 4);
        ask.due("hint(2), 1 of 1", desk.hint(2), 2);
        ask.reasons(desk, 2, false, 2, 4);
    }

    private static void largest() {
        ask.about("Terms, the rules on the largest board");
        MineDesk desk = Checks.opened(Checks.board(10, 10, 0, 81), 90, 91);
        noHint("RULE 2 is needed", desk, 1);
        ask.due("hint(2)", desk.hint(2), 165);
        ask.reasons(desk, 2, false, 90, 91);
        // A row of mines shuts off the rows from 70 on, which TOTAL alone tells.
        desk = Checks.opened(Checks.board(10, 10, 0, 60, 61, 62, 63, 64, 65, 66, 67, 68, 69), 0);
        for (int cell = 60; cell < 70; cell++) {
            ask.due("hint(1)", desk.hint(1), 2 * cell + 2);
            flag(desk, cell);
        }
        noHint("all is FLAGGED", desk, 2);
        ask.due("hint(3)", desk.hint(3), 141);
        ask.reasons(desk, 3, true, 50, 51, 52, 53, 54, 55, 56, 57, 58, 59);
        // 100 verdicts one by one, the last of which is the hint.
        desk = new MineDesk();
        desk.blank(10, 10, 0);
        for (int cell = 0; cell < 100; cell++) {
            desk.edit(cell, true);
        }
        for (int cell = 0; cell < 99; cell++) {
            desk.flag(cell);
        }
        ask.due("hint(3), 99 are FLAGGED", desk.hint(3), 200);
        ask.reasons(desk, 3, true);
        flag(desk, 99);
        noHint("100 are FLAGGED", desk, 3);
        desk.flag(0);
        ask.due("hint(3), the first one isn't", desk.hint(3), 2);
    }

    /** Nine open cells, with 8 cells around each: all mined about seven of them, 7 about the eighth, one about the ninth. */
    private static void sixtyFour() {
        ask.about("Terms, RULE 3 with 64 mines");
        MineDesk desk = new MineDesk();
        desk.blank(10, 10, 0);
        for (int cell = 0; cell < 100; cell++) {
            boolean middle = cell / 10 % 3 == 1 && cell % 10 % 3 == 1;
            int block = cell / 10 > 8 || cell % 10 > 8 || middle ? 9 : cell / 30 * 3 + cell % 10 / 3;
            if (block < 7 || block == 7 && cell != 85 || block == 8 && cell == 66) {
                desk.edit(cell, true);
            }
            if (block < 7) {
                desk.flag(cell);
            }
        }
        ask.due("count(3)", desk.count(3), 64);
        Checks.opened(desk, 11, 14, 17, 41, 44, 47, 71, 74, 77);
        noHint("all that RULE 1 tells is FLAGGED", desk, 2);
        ask.due("hint(3), no mine is left to the cells apart", desk.hint(3), 19);
        ask.reasons(desk, 3, true, 11, 14, 17, 41, 44, 47, 71, 74, 77);
        ask.due("ways(), 8 and 8", desk.ways(), 64);
        ask.due("with(66)", desk.with(66), 8);
        ask.due("with(83)", desk.with(83), 56);
        ask.due("with(99)", desk.with(99), 0);
    }

    private static void ruleTwoOrder() {
        ask.sentence("Terms", "if g is 2 or more, RULE 2, by a, then by b");
        // a = 2 has 3 and 8, and b = 7 besides these 11 to 13, b = 9 4, 13 and 14; a = 5 and b = 6 would tell 12.
        MineDesk desk = Checks.opened(Checks.board(5, 3, 0, 3, 10), 0, 9);
        ask.due("hint(2)", desk.hint(2), 23);
        ask.reasons(desk, 2, false, 2, 7);
        ask.due("hint(3)", desk.hint(3), 23);
        ask.reasons(desk, 2, false, 2, 7);
        // a = 9 and b = 8 tell 7 and 17 ahead of a = 10 and b = 11, which tell 2 and 12.
        desk = Checks.opened(Checks.board(10, 2, 0, 1, 18), 8, 9, 10, 11);
        ask.due("hint(2)", desk.hint(2), 15);
        ask.reasons(desk, 2, false, 8, 9);
        ask.sentence("Terms", "REASONS: a and b, and those of all VERDICTS of their NEIGHBOURS.");
        // 2 tells 1; then 7 has 3 and 6, and 4 has 0 besides, with 1 next to it.
        desk = Checks.opened(Checks.board(3, 3, 0, 1, 3), 8, 2);
        ask.due("hint(2)", desk.hint(2), 4);
        ask.reasons(desk, 1, false, 2);
        flag(desk, 1);
        ask.due("hint(2), 1 is FLAGGED", desk.hint(2), 1);
        ask.reasons(desk, 2, false, 2, 4, 7);
        ask.sentence("Terms", "If no rule gives any: there is no HINT.");
        desk = Checks.opened(Checks.board(4, 2, 0, 0, 2, 6), 4, 5);
        flag(desk, 2, 6);
        noHint("all that is told is FLAGGED", desk, 2);
        ask.due("hint(3)", desk.hint(3), 7);
        ask.reasons(desk, 3, true, 4, 5);
    }

    private static void ruleThreeFirst() {
        ask.sentence("Terms", "the first cell, by numbers, without a VERDICT that is MINED in all of them, or in none, has that VERDICT");
        MineDesk desk = Checks.board(10, 10, 0);
        ask.due("hint(3), in none", desk.hint(3), 1);
        ask.reasons(desk, 3, true);
        desk = Checks.board(2, 2, 0, 0, 1, 2, 3);
        for (int cell = 0; cell < 4; cell++) {
            ask.due("hint(3), in all, from " + cell + " on", desk.hint(3), 2 * cell + 2);
            ask.reasons(desk, 3, true);
            flag(desk, cell);
        }
        noHint("in all, and all are FLAGGED", desk, 3);
        noHint("in some", Checks.board(2, 2, 0, 0, 1, 2), 3);
        noHint("in some", Checks.board(2, 2, 0, 0), 3);
        ask.sentence("Terms", "placements of TOTAL less the BLOWN ones on the HIDDEN cells");
        desk = Checks.opened(Checks.board(3, 1, 0, 0), 0);
        ask.due("hint(3), none is left", desk.hint(3), 3);
        desk = Checks.opened(Checks.board(3, 1, 0, 0, 1, 2), 0);
        ask.due("hint(3), two are left of two", desk.hint(3), 4);
        noHint("one is left of two", Checks.opened(Checks.board(3, 1, 0, 0, 1), 0), 3);
        ask.sentence("Terms", "REASONS: all OPEN cells with HIDDEN NEIGHBOURS, and TOTAL.");
        desk = Checks.opened(Checks.board(10, 1, 0, 4), 0);
        flag(desk, 4);
        ask.due("hint(3), 0 to 2 have no HIDDEN NEIGHBOURS", desk.hint(3), 11);
        ask.reasons(desk, 3, true, 3);
        desk = Checks.opened(Checks.board(10, 1, 0, 1, 8), 0, 9);
        flag(desk, 1, 8);
        ask.due("hint(3), their NEIGHBOURS have VERDICTS", desk.hint(3), 5);
        ask.reasons(desk, 3, true, 0, 9);
    }

    private static void ruleThreeOne() {
        ask.about("Terms, RULE 3 gives one VERDICT, and \"one goes on with the VERDICTS, from RULE 1 on\"");
        // The two mines are at 0 and 4, but with 0 alone RULE 1 tells 2.
        MineDesk desk = Checks.opened(Checks.board(5, 1, 0, 0, 4), 1, 3);
        ask.due("hint(3)", desk.hint(3), 2);
        ask.reasons(desk, 3, true, 1, 3);
        flag(desk, 0);
        ask.due("hint(3), 0 is FLAGGED", desk.hint(3), 5);
        ask.reasons(desk, 1, true, 1, 3);
        // 4 and 6 have one mine each of 0, 1, 5 and of 1, 2, 3, 5, 7; the two mines are at 0 and among 2, 3, 7.
        desk = Checks.opened(Checks.board(4, 2, 0, 0, 3), 4, 6);
        ask.due("hint(3)", desk.hint(3), 2);
        ask.reasons(desk, 3, true, 4, 6);
        flag(desk, 0);
        ask.due("hint(3), by RULE 1, with the REASONS of RULE 3", desk.hint(3), 3);
        ask.reasons(desk, 1, true, 4, 6);
        desk = Checks.opened(Checks.board(4, 2, 0, 0, 1), 4, 6);
        flag(desk, 0);
        ask.due("hint(3), by RULE 2, with the REASONS of RULE 3", desk.hint(3), 5);
        ask.reasons(desk, 2, true, 4, 6);
        noHint("grade 2 has no RULE 3", desk, 2);
    }

    private static void ruleThreeLong() {
        ask.sentence("Terms", "RULE 3 can't be used while the BOARD is TOO LONG");
        // 6 and 8 have two mines each, and there are two: they are among 2, 7 and 12, so that 0 is safe.
        MineDesk desk = Checks.opened(Checks.board(5, 3, 0, 2, 7), 6, 8);
        noHint("13 cells", desk, 3);
        desk.flag(2);
        noHint("13 cells, one FLAGGED", desk, 3);
        desk.flag(2);
        desk.open(2);
        noHint("12 cells", desk, 2);
        ask.due("hint(3), 12 cells", desk.hint(3), 1);
        ask.reasons(desk, 3, true, 6, 8);
        // Both mines are among 2, 7 and 12, so 15 to 24 are safe, but one long part forbids to say so.
        desk = Checks.opened(Checks.board(5, 5, 0, 2, 7), 6, 8);
        noHint("13 cells, and cells apart", desk, 3);
    }

    private static void answers() {
        ask.sentence("Promise 16", "The HINT: twice the cell and the VERDICT, and 1");
        ask.due("hint(3), 0 is SAFE", Checks.board(1, 1, 0).hint(3), 1);
        ask.due("hint(3), 0 is MINED", Checks.board(1, 1, 0, 0).hint(3), 2);
        MineDesk desk = Checks.opened(Checks.board(10, 10, 0, 99), 0);
        ask.due("hint(1), 99 is MINED", desk.hint(1), 200);
        ask.reasons(desk, 1, false, 88);
        desk = Checks.opened(Checks.board(10, 10, 0, 89), 0);
        ask.due("hint(1), 89 is MINED", desk.hint(1), 180);
        ask.reasons(desk, 1, false, 78);
        flag(desk, 89);
        ask.due("hint(1), 99 is SAFE", desk.hint(1), 199);
        ask.reasons(desk, 1, false, 78, 88);
        ask.sentence("Promise 16", "0 if there is none.");
        noHint("nothing is told", Checks.board(2, 1, 0, 0), 3);
        ask.sentence("Promise 16", "NUMBER: grade isn't 1 .. 3.");
        int[] wrong = {0, 4, -1, 5, 100, MIN, MAX};
        for (int grade : wrong) {
            ask.due("hint(" + grade + ")", desk.hint(grade), MineDesk.NUMBER);
            ask.reasons(desk, 1, false, 78, 88);
        }
    }

    /** A line with a hint: 1 is MINED, by 0. */
    private static MineDesk hinted() {
        MineDesk desk = Checks.opened(Checks.board(5, 1, 0, 1), 0);
        desk.hint(1);
        return desk;
    }

    private static void stays() {
        ask.sentence("Promise 16", "(It, its KIND and its REASONS stay till the next hint(), blank(), or make() that makes.)");
        MineDesk desk = hinted();
        desk.flag(1);
        desk.open(2);
        desk.chord(2);
        ask.reasons(desk, 1, false, 0);
        desk.ways();
        desk.with(3);
        desk.tell(3, true);
        desk.name(true);
        desk.check(4, 1);
        ask.reasons(desk, 1, false, 0);
        desk.take();
        desk.undo();
        desk.undo();
        desk.undo();
        desk.undo();
        desk.edit(4, true);
        ask.reasons(desk, 1, false, 0);
        desk.hint(0);
        desk.hint(4);
        desk.blank(0, 1, 0);
        desk.make(5, 5, 1, 0, 1, 0);
        ask.due("make() that is given up", desk.make(2, 4, 1, 0, 1, 3), 0);
        ask.reasons(desk, 1, false, 0);
        ask.due("take()", desk.take(), 1);
        ask.due("hint(1), which finds none", desk.hint(1), 0);
        ask.reasons(desk, 0, false);
        ask.due("take()", desk.take(), 0);
        desk = hinted();
        desk.blank(5, 1, 0);
        ask.reasons(desk, 0, false);
        desk = hinted();
        ask.due("make() that makes", desk.make(5, 1, 0, 0, 1, 1), 1);
        ask.reasons(desk, 0, false);
    }

    private static void kinds() {
        ask.sentence("Promise 17", "The KIND of the latest HINT (1, 2, 3); 0 if there was none.");
        MineDesk desk = new MineDesk();
        ask.due("kind(), new", desk.kind(), 0);
        desk.hint(3);
        ask.due("kind(), RULE 3", desk.kind(), 3);
        desk.hint(2);
        ask.due("kind(), none by grade 2", desk.kind(), 0);
        desk = Checks.opened(Checks.board(4, 2, 0, 1), 4, 5);
        desk.hint(3);
        ask.due("kind(), RULE 2 by grade 3", desk.kind(), 2);
        desk.hint(2);
        ask.due("kind(), RULE 2 by grade 2", desk.kind(), 2);
        desk = hinted();
        desk.hint(3);
        ask.due("kind(), RULE 1 by grade 3", desk.kind(), 1);
    }

    private static void reasons() {
        ask.sentence("Promise 18", "REASON i of the latest HINT, by cells, from 0 on; -1 if there is none such.");
        MineDesk desk = Checks.opened(Checks.board(10, 10, 0, 89), 0);
        flag(desk, 89);
        desk.hint(1);
        ask.due("reason(0)", desk.reason(0), 78);
        ask.due("reason(1)", desk.reason(1), 88);
        int[] wrong = {2, 3, -1, -2, 64, 78, 88, 100, 128, MIN, MAX};
        for (int i : wrong) {
            ask.due("reason(" + i + ")", desk.reason(i), -1);
        }
        desk = new MineDesk();
        ask.due("reason(0), no hint", desk.reason(0), -1);
        desk.hint(3);
        ask.due("reason(0), TOTAL is no cell", desk.reason(0), -1);
        ask.sentence("Promise 19", "Whether TOTAL is among the REASONS of the latest HINT.");
        ask.due("total(), RULE 3", desk.total(), true);
        desk.hint(1);
        ask.due("total(), no hint", desk.total(), false);
        ask.due("total(), new", new MineDesk().total(), false);
        ask.due("total(), RULE 1", hinted().total(), false);
        desk = Checks.opened(Checks.board(4, 2, 0, 1), 4, 5);
        desk.hint(3);
        ask.due("total(), RULE 2", desk.total(), false);
        desk = Checks.opened(Checks.board(4, 2, 0, 0, 3), 4, 6);
        flag(desk, 0);
        desk.hint(3);
        ask.due("total(), RULE 1 on RULE 3", desk.total(), true);
    }

    public static void main(String[] args) {
        ruleOneSome();
        ruleOneZero();
        ruleOneOrder();
        ruleTwoInside();
        ruleTwoOrder();
        largest();
        sixtyFour();
        ruleThreeFirst();
        ruleThreeOne();
        ruleThreeLong();
        answers();
        stays();
        kinds();
        reasons();
        ask.end();
    }
}
