import java.lang.management.ManagementFactory;

/** One object and 512 of the dearest calls stay in a small part of the room that a run has. */
public final class RoomTest {
    private static final int CALLS = 512;

    /** 7.3 million elements of 8 bytes at most are some 58 million bytes; one object must want far less. */
    private static final long MOST_BYTES = 1_000_000;

    public static void main(String[] args) {
        Check c = new Check("RoomTest");
        use();
        com.sun.management.ThreadMXBean bean = (com.sun.management.ThreadMXBean) ManagementFactory.getThreadMXBean();
        long id = Thread.currentThread().getId();
        long before = bean.getThreadAllocatedBytes(id);
        use();
        long made = bean.getThreadAllocatedBytes(id) - before;
        System.out.println("RoomTest: " + made + " bytes for an object and its calls");
        c.due("little is made", made < MOST_BYTES, true);
        c.finish();
    }

    private static int use() {
        WellsNotEven x = new WellsNotEven();
        for (int i = 0; i < 9; i++) {
            x.sign('4' << 24 | '1' << 16 | '+' << 8 | '1');
            x.end(4);
            x.county();
        }
        for (int a = 0; a < 9; a++) {
            for (int b = 0; b < a; b++) {
                x.touch(a, b, (a + b) % 10);
            }
        }
        int sum = 0;
        for (int i = 0; i < CALLS; i++) {
            sum += dear(x, i % 16);
        }
        return sum;
    }

    private static int dear(WellsNotEven x, int i) {
        switch (i) {
            case 0: return x.fewest();
            case 1: return x.reach(4);
            case 2: return x.keeps(12, 2);
            case 3: return x.fill(0, 99);
            case 4: return x.rests(40);
            case 5: return x.weeks(50);
            case 6: return x.colours();
            case 7: return x.lowest();
            case 8: return x.mercy(100);
            case 9: return x.seal();
            case 10: return x.boon();
            case 11: return x.nights();
            case 12: return x.sunday();
            case 13: return x.stones(0, 1);
            case 14: return x.seen(1 + i, 0);
            default: return x.undo();
        }
    }
}
