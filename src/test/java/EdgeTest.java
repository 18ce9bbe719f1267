import java.util.ArrayList;
import java.util.List;
import java.util.Random;

/**
 * Drawn calls with arguments of every kind: none throws, and a desk that was asked them all is as one that was
 * asked only those that weren't refused.
 */
public final class EdgeTest {
    private static final int[] ODD = {
        Integer.MIN_VALUE, Integer.MIN_VALUE + 1, -128, -101, -100, -65, -64, -63, -11, -2, -1, 0, 1, 2, 3, 4, 7, 8, 9,
        10, 11, 12, 13, 14, 15, 50, 63, 64, 65, 98, 99, 100, 101, 127, 128, 200, 512, 1 << 16, Integer.MAX_VALUE - 1,
        Integer.MAX_VALUE,
    };
    /** The kinds of calls, by the letters from a on; one that stands more often is drawn more often. */
    private static final String OFTEN = "abbbbcddefgggggggghhhhhhiiiiijjjkllllllmnnooooppqqqqqqrrrsss";
    private static final int CALLS = 120;
    private static final int RUNS = 3000;
    private static final Checks ask = new Checks();
    private static final Random draw = new Random(11);

    private static int any() {
        return draw.nextInt(3) == 0 ? ODD[draw.nextInt(ODD.length)] : draw.nextInt(14);
    }

    private static int cell() {
        return any() * (1 + draw.nextInt(4));
    }

    private static int side() {
        return draw.nextInt(6) == 0 ? any() : 1 + draw.nextInt(7);
    }

    private static int[] drawCall() {
        int at = draw.nextInt(OFTEN.length());
        int on = draw.nextInt(2);
        int kind = OFTEN.charAt(at) - 'a';
        switch (kind) {
            case 0: return new int[] {kind, side(), side(), draw.nextInt(6) - 1};
            case 2: return new int[] {kind, side(), side(), any(), draw.nextInt(6) - 1, any(), draw.nextInt(5)};
            case 4: return new int[] {kind, cell(), any()};
            case 3: case 12: return new int[] {kind, any()};
            case 11: return new int[] {kind, draw.nextInt(5) == 0 ? any() : draw.nextInt(5)};
            case 15: return new int[] {kind, on};
            case 16: return new int[] {kind, cell(), draw.nextInt(5) == 0 ? any() : draw.nextInt(4) - 1};
            default: return new int[] {kind, cell(), on};
        }
    }

    private static int call(MineDesk desk, int[] a) {
        switch (a[0]) {
            case 0: return desk.blank(a[1], a[2], a[3]);
            case 1: return desk.edit(a[1], a[2] == 1);
            case 2: return desk.make(a[1], a[2], a[3], a[4], a[5], a[6]);
            case 3: return desk.count(a[1]);
            case 4: return desk.neighbour(a[1], a[2]);
            case 5: return desk.mined(a[1]) ? 1 : 0;
            case 6: return desk.open(a[1]);
            case 7: return desk.flag(a[1]);
            case 8: return desk.chord(a[1]);
            case 9: return desk.undo();
            case 10: return desk.shown(a[1]);
            case 11: return desk.hint(a[1]);
            case 12: return desk.reason(a[1]);
            case 13: return desk.take();
            case 14: return desk.tell(a[1], a[2] == 1);
            case 15: return desk.name(a[1] == 1);
            case 16: return desk.check(a[1], a[2]);
            case 17: return desk.ways();
            default: return desk.with(a[1]);
        }
    }

    private static void run(int run) {
        MineDesk desk = new MineDesk();
        List<int[]> taken = new ArrayList<>();
        for (int i = 0; i < CALLS; i++) {
            int[] a = drawCall();
            int answer = call(desk, a);
            boolean known = answer >= MineDesk.HIT && (answer != MineDesk.HIT || a[0] == 6);
            ask.due("run " + run + ", an answer of the document", known, true);
            if (answer >= 0 || answer == MineDesk.HIT) {
                taken.add(a);
            }
        }
        if (desk.count(0) * desk.count(1) > 49) {
            return;
        }
        MineDesk twin = new MineDesk();
        for (int[] a : taken) {
            call(twin, a);
        }
        ask.due("run " + run + ", refused calls change nothing", Portrait.of(desk).equals(Portrait.of(twin)), true);
    }

    public static void main(String[] args) {
        ask.about("odd arguments");
        for (int run = 0; run < RUNS; run++) {
            run(run);
        }
        ask.end();
    }
}
