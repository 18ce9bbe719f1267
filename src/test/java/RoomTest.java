import java.lang.management.ManagementFactory;

/** An object is good for 512 calls, and what they make stays in the room that one run has. */
public final class RoomTest {
    private static final int CALLS = 512;
    /** 600,000 objects of a few bytes each besides their fields, and 7.3 million fields and elements. */
    private static final long ROOM = 600_000L * 16 + 7_300_000L * 8;
    private static final Checks ask = new Checks();

    private static long made() {
        java.lang.management.ThreadMXBean threads = ManagementFactory.getThreadMXBean();
        if (threads instanceof com.sun.management.ThreadMXBean counting) {
            return counting.getCurrentThreadAllocatedBytes();
        }
        return 0L;
    }

    private static void lastCall() {
        ask.sentence("What it is", "An object is used for at most 512 calls after it has been made");
        MineDesk desk = Checks.board(4, 1, 0, 1);
        for (int call = 2; call < CALLS - 1; call++) {
            ask.due("call " + (call + 1) + ", hint(3)", desk.hint(3), 0);
        }
        ask.due("the 512th call, open(0)", desk.open(0), 1);
        desk = Checks.board(4, 1, 0, 1);
        for (int call = 2; call < CALLS - 2; call += 2) {
            ask.due("call " + (call + 1) + ", open(2)", desk.open(2), 1);
            ask.due("call " + (call + 2) + ", undo()", desk.undo(), 1);
        }
        ask.due("the 511th call, make()", desk.make(5, 5, 1, 0, 1, 1), 1);
        ask.due("the 512th call, mined(9)", desk.mined(9), true);
    }

    private static void dearMakes() {
        ask.about("512 calls of make()");
        long before = made();
        MineDesk desk = new MineDesk();
        for (int call = 0; call < CALLS / 2; call++) {
            ask.due("make()", desk.make(10, 10, 24, 0, 58736, 2), 0);
            ask.due("make()", desk.make(9, 10, 33, 2, 498395, 3), 1);
        }
        ask.due("the room that is left, " + (ROOM - made() + before), made() - before < ROOM, true);
    }

    private static void dearReasons() {
        ask.about("512 calls about reasons");
        long before = made();
        MineDesk desk = Checks.board(6, 6, 0, 0, 1, 2, 3, 4, 5, 18, 19, 20, 21, 22, 23);
        for (int cell = 0; cell < 6; cell++) {
            desk.open(6 + cell);
            desk.open(24 + cell);
            desk.tell(6 + cell, true);
        }
        for (int call = 32; call < CALLS; call += 4) {
            ask.due("hint(3)", desk.hint(3), 0);
            ask.due("ways()", desk.ways(), 4096);
            ask.due("with(0)", desk.with(0), 2048);
            ask.due("check(0, 1)", desk.check(0, 1), 0);
        }
        ask.due("the room that is left, " + (ROOM - made() + before), made() - before < ROOM, true);
    }

    public static void main(String[] args) {
        lastCall();
        dearMakes();
        dearReasons();
        ask.end();
    }
}
