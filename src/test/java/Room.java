import java.lang.management.ManagementFactory;
import java.nio.charset.StandardCharsets;

/** How much a run makes: 512 of its dearest calls on one object, counted in bytes by the machine. */
public final class Room {
    // a part of the room of one run, though all objects of a run share it
    private static final long MOST_BYTES = 1000000;
    private static final String TEXT = "square a twist 9 turn twist 9; square b turn; square c twist 3; square d back 5 turn twist 2;"
        + "figure f twist 1; figure g back 1; figure h turn; figure i twist 2 turn back 2 turn turn twist 1; figure j;"
        + "tires = if (over + 1) * (under + 2) < cross then tired / (minute + 1) else (moves + called) * 2;"
        + "slips = 30; rests = cross; seed 4;";

    private Room() {
    }

    public static void main(String[] args) {
        fill(new RopeDance());
        com.sun.management.ThreadMXBean threads = (com.sun.management.ThreadMXBean) ManagementFactory.getThreadMXBean();
        long ahead = threads.getThreadAllocatedBytes(Thread.currentThread().getId());
        int answers = fill(new RopeDance());
        long bytes = threads.getThreadAllocatedBytes(Thread.currentThread().getId()) - ahead;
        boolean fits = bytes < MOST_BYTES;
        System.out.println("a run of 512 calls makes " + bytes + " bytes (and answers " + answers + " in all)");
        System.out.println("Room: " + (fits ? 1 : 0) + " passed, " + (fits ? 0 : 1) + " failed");
        if (!fits) {
            System.exit(1);
        }
    }

    private static int fill(RopeDance x) {
        byte[] bytes = TEXT.getBytes(StandardCharsets.ISO_8859_1);
        int sum = 0;
        int calls = 0;
        for (int i = 0; calls < 512; i++) {
            if (i % 3 == 0) {
                int[] five = new int[5];
                for (int at = 0; at < bytes.length; at += 20) {
                    for (int j = 0; j < 20; j++) {
                        five[j / 4] = five[j / 4] << 8 | (at + j < bytes.length ? bytes[at + j] : ' ');
                    }
                    sum += x.feed(five[0], five[1], five[2], five[3], five[4]);
                    calls++;
                }
                sum += x.read();
                calls++;
            }
            sum += x.minutes(60) + x.reach(i % 4) + x.plan(i % 4, -1) + x.bring(i % 4, (i + 1) % 4, 0) + x.least(0)
                + x.ways(1) + x.step(2, 0) + x.year(i % 4, 60, 20) + x.rows(0, i % 4, 4, 0) + x.listen(0, i % 4, 4)
                + x.stays(i % 5, 0) + x.round(i % 5, 97) + x.power(3, 1000000000, 97, 0) + (x.hold(i % 3) ? 1 : 0)
                + (x.undo() ? 1 : 0);
            calls += 15;
        }
        return sum;
    }
}
