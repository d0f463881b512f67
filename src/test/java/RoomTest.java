import java.lang.management.ManagementFactory;

/** What an object and its calls make stays small: all calls of a run live in one room. */
public final class RoomTest {
    private static final Check CHECK = new Check("room");
    private static final long MOST_BYTES_OF_OBJECT = 400_000;
    // Rows are made once and used again, so that calls hardly make anything.
    private static final long MOST_BYTES_OF_CALLS = 10_000;

    public static void main(String[] args) {
        com.sun.management.ThreadMXBean threads =
                (com.sun.management.ThreadMXBean) ManagementFactory.getThreadMXBean();
        long thread = Thread.currentThread().getId();
        warmUp();
        long before = threads.getThreadAllocatedBytes(thread);
        SynonymGraphs x = new SynonymGraphs();
        long made = threads.getThreadAllocatedBytes(thread) - before;
        CHECK.holds("a new object makes " + made + " bytes", made < MOST_BYTES_OF_OBJECT);
        before = threads.getThreadAllocatedBytes(thread);
        for (int i = 0; i < 50; i++) {
            useAll(x);
        }
        long used = threads.getThreadAllocatedBytes(thread) - before;
        CHECK.holds("1000 calls make " + used + " bytes", used < MOST_BYTES_OF_CALLS);
        System.out.println("room: a new object makes " + made + " bytes, 1000 calls " + used);
        CHECK.end();
    }

    private static void warmUp() {
        useAll(new SynonymGraphs());
    }

    private static void useAll(SynonymGraphs x) {
        x.feed(0x613d3e62, 0x2c622063, 0x2c632064, 0x2c642065); // "a=>b,b c,c d,d e"
        x.rule(true);
        x.reload();
        x.left(0, -3);
        for (int i = 0; i < 2; i++) {
            x.feed(0x61206120, 0x61206120, 0x61206120, 0x61206120);
        }
        x.input();
        x.graph();
        x.heaviest();
        x.phrase(1000, 3);
        x.weight(1000);
        x.row(0, 1000, 3);
        x.row(1, 1000, 3);
        x.row(2, 1000, 3);
        x.feed(0x62206220, 0x62206220, 0x62206220, 0x62206220);
        x.document();
        x.hits();
        x.hit(0, 1);
        x.hitWeight(0);
        x.which();
    }
}
