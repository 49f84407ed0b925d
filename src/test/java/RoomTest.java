import java.lang.management.ManagementFactory;
import java.util.Random;

/** No call throws for any arguments in any state, the same calls answer the same, and no call makes an object. */
public final class RoomTest {
    private static final int[] EDGES = {Integer.MIN_VALUE, -65536, -2, -1, 0, 1, 2, 3, 4, 5, 15, 16, 19, 20, 21, 25, 26,
        63, 64, 65, 127, 128, 255, 256, 300, 500, 501, 1000, 1023, 1024, 1025, 65535, 65536, Integer.MAX_VALUE};

    public static void main(String[] args) {
        for (int seed = 0; seed < 300; seed++) {
            Due.is("seed " + seed, junk(seed), junk(seed));
        }
        makesNoObjects();
        Due.close("RoomTest");
    }

    private static long junk(int seed) {
        Random random = new Random(seed);
        Line line = new Line(Device.withoutEnd(EDGES[random.nextInt(EDGES.length)]));
        long sum = 0;
        for (int i = 0; i < 2000; i++) {
            sum = 31 * sum + (random.nextInt(20) == 0 ? way(line, random) : call(line.x, random));
        }
        return sum;
    }

    private static int edge(Random random) {
        return random.nextInt(4) == 0 ? random.nextInt(8) : EDGES[random.nextInt(EDGES.length)];
    }

    private static long way(Line line, Random random) {
        switch (random.nextInt(5)) {
            case 0:
                line.x.stop();
                return line.toPieces(1 + random.nextInt(9));
            case 1:
                return line.sendPieces();
            case 2:
                return line.x.boot();
            case 3:
                return line.x.test(random.nextBoolean());
            default:
                return line.x.power(random.nextInt(9), random.nextInt());
        }
    }

    private static long call(Device x, Random r) {
        switch (r.nextInt(24)) {
            case 0: return x.feed(r.nextInt(), edge(r), edge(r), edge(r), edge(r));
            case 1: return x.end(edge(r));
            case 2: return x.byteOf(edge(r));
            case 3: return x.plan(edge(r), edge(r), edge(r));
            case 4: return x.image(edge(r), edge(r), edge(r));
            case 5: return r.nextInt(4) == 0 ? x.clear() : 0;
            case 6: return x.draft(edge(r), edge(r), edge(r));
            case 7: return x.sign(edge(r));
            case 8: return x.show();
            case 9: return x.piece(edge(r), edge(r));
            case 10: return x.spoil(edge(r), edge(r));
            case 11: return x.begin(edge(r));
            case 12: return x.answer();
            case 13: return x.refuse();
            case 14: return x.awaits(edge(r));
            case 15: return x.stop();
            case 16: return x.power(edge(r), edge(r));
            case 17: return x.boot();
            case 18: return x.test(r.nextBoolean());
            case 19: return x.told(edge(r));
            case 20: return x.trusted(edge(r), edge(r), edge(r));
            case 21: return x.flash(edge(r), edge(r));
            default: return x.digest();
        }
    }

    private static void makesNoObjects() {
        com.sun.management.ThreadMXBean bean = (com.sun.management.ThreadMXBean) ManagementFactory.getThreadMXBean();
        long most = Long.MAX_VALUE;
        // What the measuring itself makes goes with the first rounds.
        for (int i = 0; i < 5; i++) {
            FlashTrust x = new FlashTrust(1024);
            x.boot();
            long before = bean.getCurrentThreadAllocatedBytes();
            int said = x.image(2, 1024, 5) + x.begin(10) + x.refuse() + dearest(x);
            long made = bean.getCurrentThreadAllocatedBytes() - before;
            Due.is("what the calls answered", said, 1 + 1 + 2 + 2);
            most = Math.min(most, made);
        }
        Due.holds("no call makes an object, but " + most + " bytes were made", most < 1000);
    }

    private static int dearest(FlashTrust x) {
        x.draft(3, 1, 500);
        x.sign(5);
        x.sign(6);
        x.draft(2, 1, 500);
        x.sign(4);
        x.draft(1, 1, 500);
        x.sign(3);
        x.show();
        x.answer();
        x.draft(2, 1, 500);
        x.sign(4);
        x.show();
        x.answer();
        x.draft(3, 1, 500);
        x.sign(5);
        x.sign(6);
        x.show();
        x.answer();
        for (int k = 0; k < 16; k++) {
            x.piece(2, k);
            x.answer();
        }
        x.boot();
        return x.test(true);
    }
}
