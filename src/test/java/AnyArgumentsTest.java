import java.lang.management.ManagementFactory;
import java.util.Random;

/** Whatever the arguments are, no call throws, all end, and none makes objects that would fill the room. */
public final class AnyArgumentsTest {
    private static final int[] EDGES = {Integer.MIN_VALUE, Integer.MIN_VALUE + 1, -129, -3, -2, -1, 0, 1, 2, 3, 4, 5, 6, 7,
        15, 16, 63, 64, 65, 100, 200, 255, 256, 1000, 1001, 65536, Integer.MAX_VALUE - 1, Integer.MAX_VALUE};

    private final Random random;

    private AnyArgumentsTest(int seed) {
        random = new Random(seed);
    }

    public static void main(String[] args) {
        for (int seed = 1; seed <= 300; seed++) {
            long one = new AnyArgumentsTest(seed).play();
            long two = new AnyArgumentsTest(seed).play();
            Harness.due(1, "the same calls once more, seed " + seed, two, one);
        }
        callsMakeNoObjects();
        Harness.finish();
    }

    private int v() {
        return random.nextInt(4) == 0 ? EDGES[random.nextInt(EDGES.length)] : random.nextInt(6);
    }

    private long play() {
        PacketField x = new PacketField();
        long sum = 0;
        for (int i = 0; i < 512; i++) {
            sum = 31 * sum + call(x);
        }
        return sum;
    }

    private int call(PacketField x) {
        switch (random.nextInt(24)) {
            case 0: return x.feed(v(), v(), random.nextInt(), v(), v()) ? 1 : 0;
            case 1: return x.end(random.nextInt(100)) ? 1 : 0;
            case 2: return x.out(v());
            case 3: return x.bits(v());
            case 4: return x.unbits();
            case 5: return x.hears(v(), v(), random.nextBoolean()) ? 1 : 0;
            case 6: return x.tune(v(), v() + 3, v()) ? 1 : 0;
            case 7: return x.raw(v()) ? 1 : 0;
            case 8: return x.call(v(), v(), v(), v()) ? 1 : 0;
            case 9: return x.leave(v(), v()) ? 1 : 0;
            case 10: return x.give(v(), v());
            case 11: return x.read(v(), v(), v());
            case 12: return x.letter(v(), v());
            case 13: return x.take(v());
            case 14: return x.beacon(v());
            case 15: return x.run(v());
            case 16: return x.time();
            case 17: return x.station(v(), v());
            case 18: return x.link(v(), v(), v());
            case 19: return x.route(v(), v(), v(), v());
            case 20: return x.best(v(), v());
            case 21: return x.queued(v(), v(), v());
            case 22: return x.call(v(), v(), -1, -1) ? 1 : 0;
            default: return x.run(300);
        }
    }

    /** A run has a room of 7.3 million elements: objects are made by the constructor alone. */
    private static void callsMakeNoObjects() {
        if (!(ManagementFactory.getThreadMXBean() instanceof com.sun.management.ThreadMXBean)) {
            return;
        }
        com.sun.management.ThreadMXBean bean = (com.sun.management.ThreadMXBean) ManagementFactory.getThreadMXBean();
        AnyArgumentsTest calls = new AnyArgumentsTest(7);
        long first = bean.getCurrentThreadAllocatedBytes();
        PacketField x = new PacketField();
        long made = bean.getCurrentThreadAllocatedBytes();
        for (int i = 0; i < 512; i++) {
            calls.call(x);
        }
        long last = bean.getCurrentThreadAllocatedBytes();
        Harness.due(1, "an object takes less than 200,000 bytes: " + (made - first), made - first < 200000, true);
        Harness.due(1, "512 calls take less than 20,000 bytes: " + (last - made), last - made < 20000, true);
    }
}
