import java.lang.management.ManagementFactory;

/** All calls of a run live in one room: an object makes its rows once and uses them again. */
public final class RoomTest {
    /** Some 50,000 numbers for tours, and less than 5,000 for all else. */
    private static final long MOST_BYTES = 400_000;

    public static void main(String[] args) {
        int[][] text = twelveMasks();
        long warm = used(text);
        long bytes = used(text);
        System.out.println("a run of 512 calls makes " + bytes + " bytes (" + warm + " at first)");
        if (bytes > MOST_BYTES) {
            System.exit(1);
        }
    }

    private static int[][] twelveMasks() {
        StringBuilder text = new StringBuilder("bench doubled 5 dark 0 top 999999");
        for (int i = 0; i < 12; i++) {
            text.append(";mask ").append(i).append(' ').append(2 * i + 1);
        }
        while (text.length() % 20 != 0) {
            text.append(' ');
        }
        int[][] rows = new int[text.length() / 20][5];
        for (int at = 0; at < text.length(); at++) {
            rows[at / 20][at % 20 / 4] = rows[at / 20][at % 20 / 4] << 8 | text.charAt(at);
        }
        return rows;
    }

    private static long used(int[][] text) {
        com.sun.management.ThreadMXBean threads = (com.sun.management.ThreadMXBean) ManagementFactory.getThreadMXBean();
        long id = Thread.currentThread().getId();
        long before = threads.getThreadAllocatedBytes(id);
        WeighingPlates x = new WeighingPlates();
        int calls = 0;
        int round = 0;
        while (calls < 512) {
            for (int[] row : text) {
                x.feed(row[0], row[1], row[2], row[3], row[4]);
                calls++;
            }
            x.bench(text.length * 20);
            x.tour();
            x.scan();
            x.look(round);
            x.suspects();
            x.supposed(3, 4);
            x.told();
            x.fewer();
            x.agree();
            x.solved(1, false);
            x.errors(true);
            x.shine(1, 5);
            x.undo();
            calls += 13;
            round++;
        }
        return threads.getThreadAllocatedBytes(id) - before;
    }
}
