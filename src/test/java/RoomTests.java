import java.lang.management.ManagementFactory;

/**
 * All calls of a run live in one room: what the dearest calls make, counted as the machine's bytes. All rows are made
 * by the constructor, so that a call makes nothing but the exception that it throws.
 */
public final class RoomTests {

    private static final int CALLS = 512;
    private static final long MOST_FOR_AN_OBJECT = 40000;
    /** What the machine makes for itself while it runs the calls for the first times. */
    private static final long MOST_FOR_ALL_CALLS = 40000;

    public static void main(String[] args) {
        com.sun.management.ThreadMXBean bean =
                (com.sun.management.ThreadMXBean) ManagementFactory.getThreadMXBean();
        long thread = Thread.currentThread().getId();
        use(new WatershedMapper(), CALLS);
        long before = bean.getThreadAllocatedBytes(thread);
        WatershedMapper mapper = new WatershedMapper();
        long made = bean.getThreadAllocatedBytes(thread);
        int sum = use(mapper, CALLS);
        long used = bean.getThreadAllocatedBytes(thread);
        System.out.println("an object: " + (made - before) + " bytes; its calls: " + (used - made) + " bytes (" + sum
                + ")");
        if (made - before > MOST_FOR_AN_OBJECT || used - made > MOST_FOR_ALL_CALLS) {
            System.exit(1);
        }
    }

    private static int use(WatershedMapper mapper, int calls) {
        mapper.resize(8, 8);
        int sum = 0;
        for (int k = 0; k < calls; k += 16) {
            sum += mapper.scatter(k, 100);
            sum += mapper.count(4) + mapper.count(6) + mapper.count(7) + mapper.count(8);
            sum += mapper.lake(0, 5) + mapper.lake(0, 6) + mapper.remedy(0);
            sum += mapper.carveWay(63, 0) + mapper.carveLake(0);
            sum += mapper.depression(0, 7) + mapper.depthsIf(3, 4) + mapper.map(70);
            sum += mapper.section(0, 63, 5) + (int) mapper.viewshed(9, 9);
            sum += mapper.undo() + mapper.save() + mapper.restore();
        }
        return sum;
    }
}
