import java.util.Random;

/** No call throws, for any arguments in any state; a call that is refused changes nothing. */
public final class EdgeTest {
    private static final int[] ODD = {
        Integer.MIN_VALUE, Integer.MIN_VALUE + 1, -128, -101, -100, -65, -64, -63, -11, -2, -1, 0, 1, 2, 3, 4, 7, 8, 9,
        10, 11, 12, 13, 14, 15, 50, 63, 64, 65, 98, 99, 100, 101, 127, 128, 200, 512, 1 << 16, Integer.MAX_VALUE - 1,
        Integer.MAX_VALUE,
    };
    private static final Checks ask = new Checks();
    private static final Random draw = new Random(11);

    private static int any() {
        return draw.nextInt(3) == 0 ? ODD[draw.nextInt(ODD.length)] : draw.nextInt(14);
    }

    private static int call(MineDesk desk, int which) {
        boolean on = draw.nextBoolean();
        switch (which) {
            case 0: return desk.blank(any(), any(), draw.nextInt(6) - 1);
            case 1: return desk.edit(any() * (1 + draw.nextInt(9)), on);
            case 2: return desk.make(any(), any(), any(), draw.nextInt(6) - 1, any(), draw.nextInt(5));
            case 3: return desk.count(any());
            case 4: return desk.neighbour(any(), any());
            case 5: return desk.mined(any()) ? 1 : 0;
            case 6: return desk.open(any() * (1 + draw.nextInt(9)));
            case 7: return desk.flag(any() * (1 + draw.nextInt(9)));
            case 8: return desk.chord(any() * (1 + draw.nextInt(9)));
            case 9: return desk.undo();
            case 10: return desk.shown(any());
            case 11: return desk.hint(any());
            case 12: return desk.reason(any());
            case 13: return desk.take();
            case 14: return desk.tell(any(), on);
            case 15: return desk.name(on);
            case 16: return desk.check(any(), draw.nextInt(4) - 1);
            case 17: return desk.ways();
            default: return desk.with(any());
        }
    }

    /** All that a call can change, but for the told reasons, which can't be read without changing them. */
    private static long state(MineDesk desk) {
        long sum = desk.mended() * 31L + desk.kind() * 7L + (desk.total() ? 3L : 0L) + desk.clicks();
        for (int what = 0; what < 8; what++) {
            sum = sum * 131L + desk.count(what);
        }
        for (int cell = 0; cell < 100; cell++) {
            sum = sum * 131L + desk.shown(cell) * 2L + (desk.mined(cell) ? 1L : 0L);
            sum = sum * 131L + desk.reason(cell) + desk.neighbour(cell, 2);
        }
        return sum;
    }

    public static void main(String[] args) {
        ask.about("odd arguments");
        for (int run = 0; run < 2000; run++) {
            MineDesk desk = new MineDesk();
            for (int i = 0; i < 100; i++) {
                long before = state(desk);
                int which = draw.nextInt(19);
                int answer = call(desk, which);
                boolean refused = answer < 0 && answer != MineDesk.HIT;
                ask.due("run " + run + ", a refused call changes nothing", refused && state(desk) != before, false);
            }
        }
        ask.end();
    }
}
