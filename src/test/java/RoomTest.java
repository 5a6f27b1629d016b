import java.lang.management.ManagementFactory;
import java.util.Random;

/**
 * All calls of one run live in one room, so a busy run of 512 calls must make little: rows are made
 * once and used again. Also a look at seas as full as they get, of which the other tests have none.
 */
public final class RoomTest {
    private static final long ROOM = 7300000L;

    private static void tell(ToldTracks x, String text) {
        for (int from = 0; from < text.length(); from += 20) {
            int[] five = new int[5];
            for (int k = 0; k < 20; k++) {
                five[k / 4] = five[k / 4] << 8 | (from + k < text.length() ? text.charAt(from + k) : ' ');
            }
            x.feed(five[0], five[1], five[2], five[3], five[4]);
        }
        x.end(text.length());
    }

    private static String fullSea() {
        StringBuilder b = new StringBuilder("size 16 16;depth 0 when column%4=3 and not row%3=1;"
                + "depth max(20,30-column*row/9)+row when all;cost column*row%17 when all;"
                + "quiet when hour%7<2 and [column>12 or row=3 and depth>20];quiet when depth>28 and hour%3=1;");
        for (int s = 0; s < 8; s++) {
            b.append("ship ").append((char) ('a' + s)).append(" look ").append(s % 4).append(" speed ")
                    .append(1 + s % 4).append(" draft ").append(3 + s).append(" load 3;");
        }
        return b.toString();
    }

    private static long busyRun(Random random) {
        ToldTracks x = new ToldTracks();
        tell(x, fullSea());
        long sum = x.sea();
        for (int k = 0; k < 96; k++) {
            sum += x.add(k % 8, random.nextInt(48), random.nextInt(16), random.nextInt(16), random.nextBoolean());
        }
        for (int calls = 0; calls < 320; calls += 8) {
            sum += x.add(random.nextInt(8), random.nextInt(48), random.nextInt(16), random.nextInt(16), true);
            sum += x.next(1) + x.kinds(2) + x.beyond() + x.who(3) + x.strange() + x.whose();
            sum += x.drop(random.nextInt(8), 0);
        }
        return sum;
    }

    public static void main(String[] args) {
        com.sun.management.ThreadMXBean threads =
                (com.sun.management.ThreadMXBean) ManagementFactory.getThreadMXBean();
        long sum = busyRun(new Random(1));
        long id = Thread.currentThread().getId();
        long before = threads.getThreadAllocatedBytes(id);
        sum += busyRun(new Random(2));
        long bytes = threads.getThreadAllocatedBytes(id) - before;
        // Nearly all of it is longs and ints: bytes by four is more than the elements.
        System.out.println("a busy run makes " + bytes + " bytes (" + sum + ")");
        if (bytes / 4 > ROOM / 5) {
            System.out.println("a busy run takes more than a fifth of the room");
            System.exit(1);
        }
    }
}
