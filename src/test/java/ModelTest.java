import java.util.Random;
import java.util.function.IntSupplier;

/**
 * Runs of drawn calls, each answered by MineDesk and by SlowDesk, which must agree (promises 1 to 25). What the next
 * call is hangs on SlowDesk alone, so that each object has 512 calls at most, all of which are compared.
 */
public final class ModelTest {
    private static final int RUNS = 1500;
    private static final int SMALL_RUNS = 30_000;
    private static final int CALLS = 512;
    /** Calls that are kept to look at all that is shown at the end. */
    private static final int LAST = 130;

    private final Random draw;
    private final MineDesk desk = new MineDesk();
    private final SlowDesk slow = new SlowDesk();
    private final StringBuilder story = new StringBuilder();
    private int calls;
    private int wrong;

    private ModelTest(long seed) {
        draw = new Random(seed);
    }

    /** Asks both, as long as the object may be asked; what is due. */
    private int same(String call, IntSupplier asked, IntSupplier model) {
        if (calls >= CALLS || wrong > 0) {
            return 0;
        }
        calls++;
        int got = asked.getAsInt();
        int due = model.getAsInt();
        story.append(call).append(" -> ").append(got).append('\n');
        if (got != due) {
            wrong++;
            story.append("    due is ").append(due).append('\n');
        }
        return due;
    }

    private static int bit(boolean b) {
        return b ? 1 : 0;
    }

    private int cells() {
        return slow.count(0) * slow.count(1);
    }

    private int cell() {
        return draw.nextInt(25) == 0 ? draw.nextInt(5) * 60 - 60 : draw.nextInt(cells());
    }

    private int side(int most) {
        return draw.nextInt(40) == 0 ? draw.nextInt(15) - 2 : 1 + draw.nextInt(most);
    }

    private void start() {
        int most = draw.nextInt(4) == 0 ? 10 : 7;
        int w = side(most);
        int h = side(most);
        int shape = draw.nextInt(40) == 0 ? draw.nextInt(7) - 2 : draw.nextInt(4);
        if (draw.nextInt(3) == 0) {
            blank(w, h, shape);
            int edits = draw.nextInt(1 + cells() / 3);
            for (int i = 0; i < edits; i++) {
                edit();
            }
            return;
        }
        int cells = Math.max(0, w * h);
        int mines = draw.nextInt(30) == 0 ? draw.nextInt(120) - 5 : draw.nextInt(1 + cells / (3 + draw.nextInt(4)));
        int seed = draw.nextInt(4) == 0 ? draw.nextInt(50) : draw.nextInt();
        int grade = draw.nextInt(30) == 0 ? draw.nextInt(8) - 2 : 1 + draw.nextInt(3);
        String call = "make(" + w + ", " + h + ", " + mines + ", " + shape + ", " + seed + ", " + grade + ")";
        same(call, () -> desk.make(w, h, mines, shape, seed, grade), () -> slow.make(w, h, mines, shape, seed, grade));
        same("mended()", desk::mended, slow::mended);
    }

    private void blank(int w, int h, int shape) {
        same("blank(" + w + ", " + h + ", " + shape + ")", () -> desk.blank(w, h, shape), () -> slow.blank(w, h, shape));
    }

    private void edit() {
        int cell = cell();
        boolean mined = draw.nextInt(5) > 0;
        same("edit(" + cell + ", " + mined + ")", () -> desk.edit(cell, mined), () -> slow.edit(cell, mined));
    }

    private void open(int cell) {
        same("open(" + cell + ")", () -> desk.open(cell), () -> slow.open(cell));
    }

    private void flag(int cell) {
        same("flag(" + cell + ")", () -> desk.flag(cell), () -> slow.flag(cell));
    }

    private void openOne() {
        int cell = cell();
        // Mostly a safe one, so that runs see more than blown cells.
        for (int i = 0; i < 4 && slow.mined(cell); i++) {
            cell = cell();
        }
        open(cell);
    }

    private void flagOne() {
        int cell = cell();
        for (int i = 0; i < 6 && !slow.mined(cell); i++) {
            cell = cell();
        }
        flag(cell);
    }

    private void chord() {
        int drawn = cell();
        for (int i = 0; i < 10 && slow.shown(drawn) > 8; i++) {
            drawn = cell();
        }
        int cell = drawn;
        same("chord(" + cell + ")", () -> desk.chord(cell), () -> slow.chord(cell));
    }

    private void check(int cell, int verdict) {
        same("check(" + cell + ", " + verdict + ")", () -> desk.check(cell, verdict), () -> slow.check(cell, verdict));
    }

    private int hint(int grade) {
        int hint = same("hint(" + grade + ")", () -> desk.hint(grade), () -> slow.hint(grade));
        compareHint();
        return hint;
    }

    private void hintAndAct() {
        int hint = hint(draw.nextInt(20) == 0 ? draw.nextInt(6) - 1 : 1 + draw.nextInt(3));
        if (hint > 0 && draw.nextInt(2) == 0) {
            same("take()", desk::take, slow::take);
            check((hint - 1) / 2, (hint - 1) % 2);
        }
        if (hint > 0 && draw.nextInt(4) > 0) {
            if (hint % 2 == 0) {
                flag((hint - 2) / 2);
            } else {
                open((hint - 1) / 2);
            }
        }
    }

    private void compareHint() {
        same("kind()", desk::kind, slow::kind);
        same("total()", () -> bit(desk.total()), () -> bit(slow.total()));
        boolean more = true;
        for (int i = 0; more; i++) {
            int at = i;
            same("reason(" + at + ")", () -> desk.reason(at), () -> slow.reason(at));
            more = slow.reason(at) >= 0;
        }
    }

    private void tellAndCheck() {
        boolean on = draw.nextInt(4) > 0;
        if (draw.nextInt(4) == 0) {
            same("name(" + on + ")", () -> desk.name(on), () -> slow.name(on));
        } else if (draw.nextInt(6) == 0) {
            same("take()", desk::take, slow::take);
        } else {
            int cell = cell();
            same("tell(" + cell + ", " + on + ")", () -> desk.tell(cell, on), () -> slow.tell(cell, on));
        }
        check(cell(), draw.nextInt(20) == 0 ? draw.nextInt(5) - 1 : draw.nextInt(2));
    }

    private void with(int cell) {
        same("with(" + cell + ")", () -> desk.with(cell), () -> slow.with(cell));
    }

    private void shown(int cell) {
        same("shown(" + cell + ")", () -> desk.shown(cell), () -> slow.shown(cell));
    }

    private void look() {
        int cell = cell();
        int small = draw.nextInt(12) - 2;
        switch (draw.nextInt(8)) {
            case 0:
                same("count(" + small + ")", () -> desk.count(small), () -> slow.count(small));
                break;
            case 1:
                same("neighbour(" + cell + ", " + small + ")", () -> desk.neighbour(cell, small), () -> slow.neighbour(cell, small));
                break;
            case 2:
                same("mined(" + cell + ")", () -> bit(desk.mined(cell)), () -> bit(slow.mined(cell)));
                break;
            case 3:
                same("solved()", () -> bit(desk.solved()), () -> bit(slow.solved()));
                break;
            case 4:
                same("clicks()", desk::clicks, slow::clicks);
                break;
            case 5:
                same("reason(" + small + ")", () -> desk.reason(small), () -> slow.reason(small));
                break;
            case 6:
                same("mended()", desk::mended, slow::mended);
                break;
            default:
                shown(cell);
        }
    }

    private void step() {
        int what = draw.nextInt(100);
        if (what < 2) {
            start();
        } else if (what < 6) {
            edit();
        } else if (what < 24) {
            openOne();
        } else if (what < 34) {
            flagOne();
        } else if (what < 46) {
            chord();
        } else if (what < 54) {
            same("undo()", desk::undo, slow::undo);
        } else if (what < 76) {
            hintAndAct();
        } else if (what < 90) {
            tellAndCheck();
        } else {
            same("ways()", desk::ways, slow::ways);
            with(cell());
        }
        look();
    }

    private boolean run() {
        start();
        // Some runs come to 200 moves.
        int flags = draw.nextInt(10) == 0 ? 170 + draw.nextInt(35) : 0;
        for (int i = 0; i < flags; i++) {
            flagOne();
        }
        while (wrong == 0 && calls < CALLS - LAST) {
            step();
        }
        for (int what = 0; what < 8; what++) {
            int one = what;
            same("count(" + one + ")", () -> desk.count(one), () -> slow.count(one));
        }
        for (int cell = 0; cell < cells(); cell++) {
            shown(cell);
        }
        while (wrong == 0 && calls < CALLS) {
            look();
        }
        return wrong == 0;
    }

    /** A small board with few cells open, where much hangs on TOTAL. */
    private boolean runSmall() {
        int w = 1 + draw.nextInt(6);
        int h = 1 + draw.nextInt(4);
        blank(w, h, draw.nextInt(h % 2 == 0 ? 4 : 3));
        int mines = draw.nextInt(1 + w * h);
        for (int i = 0; i < mines; i++) {
            edit();
        }
        int opened = 1 + draw.nextInt(4);
        for (int i = 0; i < opened; i++) {
            openOne();
        }
        with(cell());
        for (int i = 0; i < w * h && wrong == 0; i++) {
            int hint = hint(3);
            if (hint > 0 && hint % 2 == 0) {
                flag((hint - 2) / 2);
            } else if (hint > 0 && draw.nextInt(3) > 0) {
                open((hint - 1) / 2);
            } else {
                break;
            }
        }
        same("ways()", desk::ways, slow::ways);
        same("clicks()", desk::clicks, slow::clicks);
        for (int i = 0; i < 10; i++) {
            tellAndCheck();
        }
        return wrong == 0;
    }

    public static void main(String[] args) {
        int failed = 0;
        int runs = args.length > 0 ? Integer.parseInt(args[0]) : RUNS;
        long base = args.length > 1 ? Long.parseLong(args[1]) : 0L;
        int small = args.length > 0 ? 20 * runs : SMALL_RUNS;
        for (int i = 0; i < runs + small && failed < 3; i++) {
            ModelTest test = new ModelTest(base + i);
            if (!(i < runs ? test.run() : test.runSmall())) {
                failed++;
                System.out.println("run " + (base + i) + " differs:\n" + test.story);
            }
        }
        System.out.println(failed == 0 ? runs + " runs and " + small + " small ones are as due" : "some runs differ");
        System.exit(failed == 0 ? 0 : 1);
    }
}
