import java.lang.management.ManagementFactory;

/** All calls of a run live in one room: no call makes objects (step() makes the exception that it throws). */
public final class RoomTest {
    public static void main(String[] args) {
        com.sun.management.ThreadMXBean threads = (com.sun.management.ThreadMXBean) ManagementFactory.getThreadMXBean();
        long me = Thread.currentThread().getId();
        OrnamentDesk desk = new OrnamentDesk();
        long sum = calls(desk, 3);
        long before = threads.getThreadAllocatedBytes(me);
        sum += calls(desk, 20);
        long used = threads.getThreadAllocatedBytes(me) - before;
        System.out.println("20 rounds of calls made " + used + " bytes of objects (" + sum + ")");
        if (used > 4096) {
            System.exit(1);
        }
    }

    private static long calls(OrnamentDesk desk, int rounds) {
        long sum = 0;
        for (int k = 0; k < rounds; k++) {
            for (int cls = 0; cls < 17; cls++) {
                sum += desk.make(cls, 6, 3, k) + (desk.paint(1, 2, 3) ? 1 : 0) + (desk.shift(k, 2) ? 1 : 0);
                sum += (desk.turn(1) ? 1 : 0) + (desk.dye(0, 1) ? 1 : 0) + desk.mend(cls) + desk.reduce() + desk.undo();
                for (int what = 0; what < 24; what++) {
                    sum += desk.count(what);
                }
                sum += desk.cell(k, k) + desk.step(true, 2) + desk.shifts(2, 0, 1) + desk.flip(5) + desk.centre(2, -1, 0);
                sum += desk.kind(k, 1) + desk.strip(0) + desk.coloured(1, false) + desk.flaws(cls) + desk.nearest(9);
                sum += desk.orbit(cls, 0, 0, true) + desk.painted(0, 0, 1) + desk.better() + desk.like(1);
                sum += (desk.image(1) ? 1 : 0) + (desk.again(1) ? 1 : 0) + (desk.net(k % 2 == 0) ? 1 : 0);
                sum += desk.tell(0x61623b0000000000L) + desk.read() + desk.fault(true);
            }
        }
        return sum;
    }
}
