import java.util.Random;

/** Long runs of drawn calls, each answered by MineDesk and by SlowDesk, which must agree (promises 1 to 25). */
public final class ModelTest {
    private static final int RUNS = 1500;
    private static final int CALLS = 120;

    private final Random draw;
    private final MineDesk desk = new MineDesk();
    private final SlowDesk slow = new SlowDesk();
    private final StringBuilder story = new StringBuilder();
    private int wrong;

    private ModelTest(long seed) {
        draw = new Random(seed);
    }

    private void same(String call, long got, long due) {
        story.append(call).append(" -> ").append(got).append('\n');
        if (got != due) {
            wrong++;
            story.append("    due is ").append(due).append('\n');
        }
    }

    private static long bit(boolean b) {
        return b ? 1L : 0L;
    }

    private int cell() {
        int cells = desk.count(0) * desk.count(1);
        return draw.nextInt(25) == 0 ? draw.nextInt(5) * 60 - 60 : draw.nextInt(cells);
    }

    private int side(int most) {
        return draw.nextInt(40) == 0 ? draw.nextInt(15) - 2 : 1 + draw.nextInt(most);
    }

    private void start() {
        int most = draw.nextInt(4) == 0 ? 10 : 7;
        int w = side(most);
        int h = side(most);
        int shape = draw.nextInt(40) == 0 ? draw.nextInt(7) - 2 : draw.nextInt(4);
        if (draw.nextInt(3) == 0) {
            same("blank(" + w + ", " + h + ", " + shape + ")", desk.blank(w, h, shape), slow.blank(w, h, shape));
            int cells = desk.count(0) * desk.count(1);
            int edits = draw.nextInt(1 + cells / 3);
            for (int i = 0; i < edits; i++) {
                edit();
            }
            return;
        }
        int cells = Math.max(0, w * h);
        int mines = draw.nextInt(30) == 0 ? draw.nextInt(120) - 5 : draw.nextInt(1 + cells / (3 + draw.nextInt(4)));
        int seed = draw.nextInt(4) == 0 ? draw.nextInt(50) : draw.nextInt();
        int grade = draw.nextInt(30) == 0 ? draw.nextInt(8) - 2 : 1 + draw.nextInt(3);
        String call = "make(" + w + ", " + h + ", " + mines + ", " + shape + ", " + seed + ", " + grade + ")";
        same(call, desk.make(w, h, mines, shape, seed, grade), slow.make(w, h, mines, shape, seed, grade));
        same("mended()", desk.mended(), slow.mended());
    }

    private void edit() {
        int cell = cell();
        boolean mined = draw.nextInt(5) > 0;
        same("edit(" + cell + ", " + mined + ")", desk.edit(cell, mined), slow.edit(cell, mined));
    }

    private void open() {
        int cell = cell();
        // Mostly a safe one, so that runs see more than blown cells.
        for (int i = 0; i < 4 && desk.mined(cell); i++) {
            cell = cell();
        }
        same("open(" + cell + ")", desk.open(cell), slow.open(cell));
    }

    private void flag() {
        int cell = cell();
        for (int i = 0; i < 6 && !desk.mined(cell); i++) {
            cell = cell();
        }
        same("flag(" + cell + ")", desk.flag(cell), slow.flag(cell));
    }

    private void chord() {
        int cell = cell();
        for (int i = 0; i < 10 && desk.shown(cell) > 8; i++) {
            cell = cell();
        }
        same("chord(" + cell + ")", desk.chord(cell), slow.chord(cell));
    }

    private void hint() {
        int grade = draw.nextInt(20) == 0 ? draw.nextInt(6) - 1 : 1 + draw.nextInt(3);
        int hint = desk.hint(grade);
        same("hint(" + grade + ")", hint, slow.hint(grade));
        compareHint();
        if (hint > 0 && draw.nextInt(2) == 0) {
            int cell = (hint - 1) / 2;
            int verdict = (hint - 1) % 2;
            same("take()", desk.take(), slow.take());
            same("check(" + cell + ", " + verdict + ")", desk.check(cell, verdict), slow.check(cell, verdict));
        }
        if (hint > 0 && draw.nextInt(4) > 0) {
            int cell = (hint - 1) / 2;
            if (hint % 2 == 0) {
                same("flag(" + cell + ")", desk.flag(cell), slow.flag(cell));
            } else {
                same("open(" + cell + ")", desk.open(cell), slow.open(cell));
            }
        }
    }

    private void compareHint() {
        same("kind()", desk.kind(), slow.kind());
        same("total()", bit(desk.total()), bit(slow.total()));
        for (int i = -1; i < 101; i++) {
            int got = desk.reason(i);
            if (got != slow.reason(i) || got >= 0) {
                same("reason(" + i + ")", got, slow.reason(i));
            }
        }
    }

    private void told() {
        boolean on = draw.nextInt(4) > 0;
        if (draw.nextInt(4) == 0) {
            same("name(" + on + ")", desk.name(on), slow.name(on));
        } else if (draw.nextInt(6) == 0) {
            same("take()", desk.take(), slow.take());
        } else {
            int cell = cell();
            same("tell(" + cell + ", " + on + ")", desk.tell(cell, on), slow.tell(cell, on));
        }
        int cell = cell();
        int verdict = draw.nextInt(20) == 0 ? draw.nextInt(5) - 1 : draw.nextInt(2);
        same("check(" + cell + ", " + verdict + ")", desk.check(cell, verdict), slow.check(cell, verdict));
    }

    private void placements() {
        same("ways()", desk.ways(), slow.ways());
        int cell = cell();
        same("with(" + cell + ")", desk.with(cell), slow.with(cell));
    }

    private void compareAll() {
        for (int what = -2; what < 10; what++) {
            same("count(" + what + ")", desk.count(what), slow.count(what));
        }
        for (int cell = -2; cell < 103; cell++) {
            int shown = desk.shown(cell);
            if (shown != slow.shown(cell)) {
                same("shown(" + cell + ")", shown, slow.shown(cell));
            }
            if (desk.mined(cell) != slow.mined(cell)) {
                same("mined(" + cell + ")", bit(desk.mined(cell)), bit(slow.mined(cell)));
            }
            for (int i = -1; i < 10; i++) {
                if (desk.neighbour(cell, i) != slow.neighbour(cell, i)) {
                    same("neighbour(" + cell + ", " + i + ")", desk.neighbour(cell, i), slow.neighbour(cell, i));
                }
            }
        }
        same("solved()", bit(desk.solved()), bit(slow.solved()));
        same("clicks()", desk.clicks(), slow.clicks());
        same("mended()", desk.mended(), slow.mended());
        compareHint();
    }

    private void step() {
        int what = draw.nextInt(100);
        if (what < 2) {
            start();
        } else if (what < 6) {
            edit();
        } else if (what < 24) {
            open();
        } else if (what < 34) {
            flag();
        } else if (what < 46) {
            chord();
        } else if (what < 54) {
            same("undo()", desk.undo(), slow.undo());
        } else if (what < 76) {
            hint();
        } else if (what < 90) {
            told();
        } else {
            placements();
        }
    }

    private boolean run() {
        compareAll();
        start();
        for (int i = 0; i < CALLS && wrong == 0; i++) {
            step();
            if (i % 8 == 7) {
                compareAll();
            }
        }
        compareAll();
        return wrong == 0;
    }

    /** A small board with few cells open, where much hangs on TOTAL. */
    private boolean runSmall() {
        int w = 1 + draw.nextInt(6);
        int h = 1 + draw.nextInt(4);
        int shape = draw.nextInt(h % 2 == 0 ? 4 : 3);
        same("blank(" + w + ", " + h + ", " + shape + ")", desk.blank(w, h, shape), slow.blank(w, h, shape));
        int mines = draw.nextInt(1 + w * h);
        for (int i = 0; i < mines; i++) {
            edit();
        }
        int opened = 1 + draw.nextInt(4);
        for (int i = 0; i < opened; i++) {
            open();
        }
        int cell = cell();
        same("with(" + cell + ")", desk.with(cell), slow.with(cell));
        for (int i = 0; i < w * h && wrong == 0; i++) {
            int hint = desk.hint(3);
            same("hint(3)", hint, slow.hint(3));
            compareHint();
            if (hint > 0 && hint % 2 == 0) {
                same("flag(" + (hint - 2) / 2 + ")", desk.flag((hint - 2) / 2), slow.flag((hint - 2) / 2));
            } else if (hint > 0 && draw.nextInt(3) > 0) {
                same("open(" + (hint - 1) / 2 + ")", desk.open((hint - 1) / 2), slow.open((hint - 1) / 2));
            } else {
                break;
            }
        }
        same("ways()", desk.ways(), slow.ways());
        return wrong == 0;
    }

    public static void main(String[] args) {
        int failed = 0;
        int runs = args.length > 0 ? Integer.parseInt(args[0]) : RUNS;
        long base = args.length > 1 ? Long.parseLong(args[1]) : 0L;
        for (int seed = 0; seed < runs && failed < 3; seed++) {
            ModelTest test = new ModelTest(base + seed);
            boolean fine = test.run();
            for (int i = 0; i < 20 && fine; i++) {
                test.story.setLength(0);
                fine = test.runSmall();
            }
            if (!fine) {
                failed++;
                System.out.println("run " + (base + seed) + " differs:\n" + test.story);
            }
        }
        System.out.println(failed == 0 ? runs + " runs are as due" : "some runs differ");
        System.exit(failed == 0 ? 0 : 1);
    }
}
