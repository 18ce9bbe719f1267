import java.util.function.Supplier;
import java.util.function.ToIntFunction;

/** What the terms say of refused calls: each changes nothing, and the first refusal that a call names is answered. */
public final class RefusalTest {
    private static final int MIN = Integer.MIN_VALUE;
    private static final int MAX = Integer.MAX_VALUE;
    private static final Checks ask = new Checks();

    /** A line of 5 with an open cell, a blown one and a flagged one, a hint, told reasons, and a make() that was given up. */
    private static MineDesk used() {
        MineDesk desk = Checks.board(5, 1, 0, 1, 3);
        desk.make(2, 6, 1, 0, 1, 1);
        desk.open(0);
        desk.flag(4);
        desk.hint(1);
        desk.take();
        desk.tell(2, true);
        desk.name(true);
        desk.open(3);
        return desk;
    }

    /** The same with 200 moves, and a chord that could be: 0 has one mine, which is flagged. */
    private static MineDesk full() {
        MineDesk desk = used();
        desk.flag(1);
        for (int i = 4; i < 200; i++) {
            desk.flag(2);
        }
        return desk;
    }

    /** A board with a part of 13 cells, two told cells, TOTAL told, and a hint from ahead of that. */
    private static MineDesk tooLong() {
        MineDesk desk = Checks.board(5, 5, 0, 2, 7);
        desk.open(6);
        desk.open(2);
        desk.hint(3);
        desk.undo();
        desk.open(8);
        desk.tell(6, true);
        desk.tell(8, true);
        desk.tell(22, true);
        desk.name(true);
        return desk;
    }

    /** Three more told cells than a check can have. */
    private static MineDesk toldLong() {
        MineDesk desk = Checks.board(7, 4, 0, 0, 1, 2, 3, 4, 5, 6);
        for (int cell = 7; cell < 14; cell++) {
            desk.open(cell);
            desk.tell(cell, true);
        }
        return desk;
    }

    private static MineDesk fresh() {
        return Checks.board(3, 2, 0, 1);
    }

    /** A call that answers so, and after which all is as without it. */
    private static void idle(String call, Supplier<MineDesk> setting, ToIntFunction<MineDesk> asked, int due) {
        MineDesk desk = setting.get();
        ask.due(call, asked.applyAsInt(desk), due);
        ask.due(call + ", all is as ahead of it", Portrait.of(desk).equals(Portrait.of(setting.get())), true);
    }

    private static void boards() {
        ask.sentence("Terms", "A call that is refused (answers below 0, where not told otherwise) changes nothing.");
        int[][] wrong = {{0, 1, 0}, {1, 0, 0}, {11, 1, 0}, {1, 11, 0}, {1, 1, -1}, {1, 1, 4}, {3, 3, 3}, {MIN, MAX, 0}};
        for (int[] a : wrong) {
            String call = "blank(" + a[0] + ", " + a[1] + ", " + a[2] + ")";
            idle(call, RefusalTest::used, desk -> desk.blank(a[0], a[1], a[2]), MineDesk.NUMBER);
        }
        int[][] unmade = {{0, 4, 0, 0, 1, 1}, {4, 0, 0, 0, 1, 1}, {11, 4, 0, 0, 1, 1}, {4, 11, 0, 0, 1, 1}, {4, 4, 0, -1, 1, 1},
            {4, 4, 0, 4, 1, 1}, {4, 3, 0, 3, 1, 1}, {5, 5, -1, 0, 1, 1}, {5, 5, 17, 0, 1, 1}, {5, 5, 1, 0, 1, 0}, {5, 5, 1, 0, 1, 4}};
        for (int[] a : unmade) {
            String call = "make" + java.util.Arrays.toString(a);
            idle(call, RefusalTest::used, desk -> desk.make(a[0], a[1], a[2], a[3], a[4], a[5]), MineDesk.NUMBER);
        }
        idle("edit(5, true)", RefusalTest::used, desk -> desk.edit(5, true), MineDesk.NUMBER);
        idle("edit(-1, false)", RefusalTest::used, desk -> desk.edit(-1, false), MineDesk.NUMBER);
        idle("edit(2, true), not all HIDDEN", RefusalTest::used, desk -> desk.edit(2, true), MineDesk.STATE);
        idle("edit(1, false), not all HIDDEN", RefusalTest::used, desk -> desk.edit(1, false), MineDesk.STATE);
        idle("edit(1, true), already so", RefusalTest::fresh, desk -> desk.edit(1, true), MineDesk.STATE);
        idle("edit(0, false), already so", RefusalTest::fresh, desk -> desk.edit(0, false), MineDesk.STATE);
    }

    private static void moves() {
        ask.about("Terms, refused moves change nothing");
        int[] none = {-1, 5, 64, 100, MIN, MAX};
        for (int cell : none) {
            idle("open(" + cell + ")", RefusalTest::used, desk -> desk.open(cell), MineDesk.NUMBER);
            idle("flag(" + cell + ")", RefusalTest::used, desk -> desk.flag(cell), MineDesk.NUMBER);
            idle("chord(" + cell + ")", RefusalTest::used, desk -> desk.chord(cell), MineDesk.NUMBER);
        }
        idle("open(0), OPEN", RefusalTest::used, desk -> desk.open(0), MineDesk.STATE);
        idle("open(3), BLOWN", RefusalTest::used, desk -> desk.open(3), MineDesk.STATE);
        idle("open(4), FLAGGED", RefusalTest::used, desk -> desk.open(4), MineDesk.STATE);
        idle("flag(0), OPEN", RefusalTest::used, desk -> desk.flag(0), MineDesk.STATE);
        idle("flag(3), BLOWN", RefusalTest::used, desk -> desk.flag(3), MineDesk.STATE);
        idle("chord(2), HIDDEN", RefusalTest::used, desk -> desk.chord(2), MineDesk.STATE);
        idle("chord(3), BLOWN", RefusalTest::used, desk -> desk.chord(3), MineDesk.STATE);
        idle("chord(4), FLAGGED", RefusalTest::used, desk -> desk.chord(4), MineDesk.STATE);
        idle("chord(0), a flag is missing", RefusalTest::used, desk -> desk.chord(0), MineDesk.STATE);
        idle("open(2)", RefusalTest::full, desk -> desk.open(2), MineDesk.FULL);
        idle("flag(2)", RefusalTest::full, desk -> desk.flag(2), MineDesk.FULL);
        idle("flag(1)", RefusalTest::full, desk -> desk.flag(1), MineDesk.FULL);
        idle("chord(0)", RefusalTest::full, desk -> desk.chord(0), MineDesk.FULL);
        idle("undo()", RefusalTest::fresh, MineDesk::undo, MineDesk.STATE);
        idle("undo()", MineDesk::new, MineDesk::undo, MineDesk.STATE);
    }

    private static void reasons() {
        ask.about("Terms, refused calls about reasons change nothing");
        int[] grades = {0, 4, -1, MIN, MAX};
        for (int grade : grades) {
            idle("hint(" + grade + ")", RefusalTest::used, desk -> desk.hint(grade), MineDesk.NUMBER);
        }
        int[] none = {-1, 5, 64, 100, MIN, MAX};
        for (int cell : none) {
            idle("tell(" + cell + ", true)", RefusalTest::used, desk -> desk.tell(cell, true), MineDesk.NUMBER);
            idle("tell(" + cell + ", false)", RefusalTest::used, desk -> desk.tell(cell, false), MineDesk.NUMBER);
            idle("check(" + cell + ", 1)", RefusalTest::used, desk -> desk.check(cell, 1), MineDesk.NUMBER);
            idle("with(" + cell + ")", RefusalTest::used, desk -> desk.with(cell), MineDesk.NUMBER);
            idle("shown(" + cell + ")", RefusalTest::used, desk -> desk.shown(cell), MineDesk.NUMBER);
            idle("neighbour(" + cell + ", 0)", RefusalTest::used, desk -> desk.neighbour(cell, 0), MineDesk.NUMBER);
        }
        idle("neighbour(0, 1)", RefusalTest::used, desk -> desk.neighbour(0, 1), MineDesk.NUMBER);
        idle("count(8)", RefusalTest::used, desk -> desk.count(8), -1);
        idle("reason(1)", RefusalTest::used, desk -> desk.reason(1), -1);
        idle("check(1, 2)", RefusalTest::used, desk -> desk.check(1, 2), MineDesk.NUMBER);
        idle("check(0, 1), OPEN", RefusalTest::used, desk -> desk.check(0, 1), MineDesk.STATE);
        idle("with(3), BLOWN", RefusalTest::used, desk -> desk.with(3), MineDesk.STATE);
        idle("ways()", RefusalTest::tooLong, MineDesk::ways, MineDesk.LONG);
        idle("with(0)", RefusalTest::tooLong, desk -> desk.with(0), MineDesk.LONG);
        idle("check(21, 0)", RefusalTest::toldLong, desk -> desk.check(21, 0), MineDesk.LONG);
    }

    private static void asking() {
        ask.about("Calls that only ask change nothing");
        idle("ways()", RefusalTest::used, MineDesk::ways, 1);
        idle("with(1)", RefusalTest::used, desk -> desk.with(1), 1);
        idle("check(1, 1)", RefusalTest::used, desk -> desk.check(1, 1), 1);
        idle("check(24, 0)", RefusalTest::tooLong, desk -> desk.check(24, 0), 1);
        idle("check(1, 1)", RefusalTest::toldLong, desk -> desk.check(1, 1), 0);
        idle("clicks()", RefusalTest::used, MineDesk::clicks, 2);
        idle("solved()", RefusalTest::used, desk -> desk.solved() ? 1 : 0, 0);
        idle("mined(1)", RefusalTest::used, desk -> desk.mined(1) ? 1 : 0, 1);
        idle("shown(3)", RefusalTest::used, desk -> desk.shown(3), 11);
        idle("mended()", RefusalTest::used, MineDesk::mended, 1);
        idle("kind()", RefusalTest::used, MineDesk::kind, 1);
        idle("total()", RefusalTest::used, desk -> desk.total() ? 1 : 0, 0);
        idle("tell(2, true), told already", RefusalTest::used, desk -> desk.tell(2, true), 0);
        idle("name(true), told already", RefusalTest::used, desk -> desk.name(true), 0);
        ask.sentence("Promise 9", "this isn't refused");
        MineDesk desk = used();
        ask.due("open(1), a hit", desk.open(1), MineDesk.HIT);
        ask.due("open(1), a hit, changes something", Portrait.of(desk).equals(Portrait.of(used())), false);
    }

    private static void order() {
        ask.sentence("Terms", "Of several refusals that a call names the first one named is answered.");
        ask.due("edit(5, true): no such cell, not all HIDDEN", used().edit(5, true), MineDesk.NUMBER);
        ask.due("open(5): no such cell, 200 moves", full().open(5), MineDesk.NUMBER);
        ask.due("open(0): OPEN, 200 moves", full().open(0), MineDesk.STATE);
        ask.due("open(3): BLOWN, 200 moves", full().open(3), MineDesk.STATE);
        ask.due("open(4): FLAGGED, 200 moves", full().open(4), MineDesk.STATE);
        ask.due("open(2): 200 moves", full().open(2), MineDesk.FULL);
        ask.due("flag(5): no such cell, 200 moves", full().flag(5), MineDesk.NUMBER);
        ask.due("flag(0): OPEN, 200 moves", full().flag(0), MineDesk.STATE);
        ask.due("flag(3): BLOWN, 200 moves", full().flag(3), MineDesk.STATE);
        ask.due("flag(4): 200 moves", full().flag(4), MineDesk.FULL);
        ask.due("chord(5): no such cell, 200 moves", full().chord(5), MineDesk.NUMBER);
        ask.due("chord(2): HIDDEN, 200 moves", full().chord(2), MineDesk.STATE);
        ask.due("chord(3): BLOWN, 200 moves", full().chord(3), MineDesk.STATE);
        ask.due("chord(0): 200 moves", full().chord(0), MineDesk.FULL);
        MineDesk desk = Checks.board(5, 1, 0, 1);
        desk.open(0);
        for (int i = 1; i < 200; i++) {
            desk.flag(4);
        }
        ask.due("chord(0): a flag is missing, 200 moves", desk.chord(0), MineDesk.STATE);
        ask.due("check(0, 2): OPEN, no verdict", used().check(0, 2), MineDesk.NUMBER);
        ask.due("check(28, 0): no such cell, too many", toldLong().check(28, 0), MineDesk.NUMBER);
        ask.due("check(21, 2): no verdict, too many", toldLong().check(21, 2), MineDesk.NUMBER);
        ask.due("check(7, 0): OPEN, too many", toldLong().check(7, 0), MineDesk.STATE);
        ask.due("check(21, 0): too many", toldLong().check(21, 0), MineDesk.LONG);
        ask.due("with(25): no such cell, too long", tooLong().with(25), MineDesk.NUMBER);
        ask.due("with(6): OPEN, too long", tooLong().with(6), MineDesk.STATE);
        ask.due("with(0): too long", tooLong().with(0), MineDesk.LONG);
    }

    public static void main(String[] args) {
        boards();
        moves();
        reasons();
        asking();
        order();
        ask.end();
    }
}
