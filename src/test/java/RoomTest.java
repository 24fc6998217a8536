import java.lang.management.ManagementFactory;

/** All rows are made with the object: no call makes one, however many words there are. */
public final class RoomTest {
    private static final long MOST_OF_AN_OBJECT = 40_000;
    /** What the machine itself may make while it counts. */
    private static final long MOST_OF_A_RUN = 4_000;

    public static void main(String[] args) {
        run(new BlindPages());
        long start = made();
        BlindPages x = new BlindPages();
        long object = made() - start;
        start = made();
        run(x);
        long calls = made() - start;
        System.out.println(object + " bytes for an object, " + calls + " for its calls");
        if (object > MOST_OF_AN_OBJECT || calls > MOST_OF_A_RUN) System.exit(1);
    }

    private static long made() {
        com.sun.management.ThreadMXBean bean = (com.sun.management.ThreadMXBean) ManagementFactory.getThreadMXBean();
        return bean.getThreadAllocatedBytes(Thread.currentThread().getId());
    }

    private static void run(BlindPages x) {
        for (int i = 0; i < 6; i++) x.draw(100 + i, 8, 24, 26);
        x.type('+');
        x.type('0');
        x.type(';');
        for (int i = 0; i < 40; i++) {
            x.does();
            x.deals(4 + i % 5);
            x.digest();
            x.back();
            x.finds(i % 4);
            x.all(4 + i % 3);
        }
        x.clear();
        x.type('q');
        for (int i = 0; i < 20; i++) {
            x.add();
            x.takeOut();
            x.finds(2);
            x.way(i % 5, i % 6);
            x.looks(i % 12, i % 4);
            x.begins(i % 2);
            x.between(i);
            x.page(i, i % 7);
            x.fork(i % 12, i % 4, i % 4);
        }
        x.anew();
    }
}
