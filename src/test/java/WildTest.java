import com.sun.management.ThreadMXBean;
import java.lang.management.ManagementFactory;
import java.util.Random;

/**
 * No call throws, whatever its arguments are, also far behind the 512th one; and no call makes an
 * object, so that a run needs no more room than its constructors take.
 */
public final class WildTest extends Checks {
    private static final int CALLS = 20000;
    private static final int[] EDGES = {LOW, LOW + 1, -1500, -2, -1, 0, 1, 2, 3, 4, 5, 6, 9, 10, 16, 17, 199, 200, 201, 255,
        256, 257, 299, 300, 400, 401, 599, 600, 601, 1498, 1499, 1500, 1501, 5999, 6000, HIGH - 1499, HIGH - 1, HIGH};

    /** Numbers of one call each: which one it is, and its arguments. */
    private static int[][] chosen(int seed, boolean tame) {
        Random random = new Random(seed);
        int[][] calls = new int[CALLS][7];
        for (int[] call : calls) {
            call[0] = random.nextInt(20);
            for (int i = 1; i < call.length; i++) {
                int edge = EDGES[random.nextInt(EDGES.length)];
                call[i] = tame ? random.nextInt(i == 1 ? 4 : 300) : random.nextInt(10) == 0 ? random.nextInt() : edge;
            }
            if (tame && call[0] == 1) {
                tameRule(random, call);
            }
        }
        return calls;
    }

    private static void tameRule(Random random, int[] call) {
        call[1] = random.nextInt(4);
        call[2] = 1 + random.nextInt(20);
        call[3] = call[2] + random.nextInt(580);
        call[4] = 1 + random.nextInt(9);
        call[5] = random.nextInt(call[4] + 1);
        call[6] = 1 + random.nextInt(3);
    }

    private static long answer(CutBlocks x, int[] a) {
        switch (a[0]) {
            case 0: return x.seed(a[1]);
            case 1: return x.rule(a[1], a[2], a[3], a[4], a[5], a[6]);
            case 2: return x.add(a[1], a[2]);
            case 3: return x.fill(a[1], a[2], a[3], a[4]);
            case 4: return x.insert(a[1], a[2], a[3]);
            case 5: return x.remove(a[1], a[2], a[3] >> 3);
            case 6: return x.copy(a[1], a[2]);
            case 7: return x.size(a[1]);
            case 8: return x.byteAt(a[1], a[2]);
            case 9: return x.blocks(a[1]);
            case 10: return x.block(a[1], a[2], a[3] & 1);
            case 11: return x.digest(a[1], a[2], a[3] & 1);
            case 12: return x.hash(a[1], a[2]);
            case 13: return x.alike(a[1], a[2] & 3, a[3] & 3);
            case 14: return x.keep(a[1]);
            case 15: return x.drop(a[1]);
            case 16: return x.restore(a[1], a[2] & 3);
            case 17: return x.told(a[1], a[2]);
            case 18: return x.uses(a[1], a[2]);
            default: return x.kept(a[1]);
        }
    }

    private static long sumOfAnswers(CutBlocks x, int[][] calls) {
        long sum = 0;
        for (int[] call : calls) {
            sum = 31 * sum + answer(x, call);
        }
        return sum;
    }

    public static void main(String[] args) {
        ThreadMXBean threads = (ThreadMXBean) ManagementFactory.getThreadMXBean();
        for (int seed = 0; seed < 8; seed++) {
            int[][] calls = chosen(seed, seed % 2 == 0);
            at("run " + seed);
            long first = sumOfAnswers(new CutBlocks(), calls);
            CutBlocks again = new CutBlocks();
            long before = threads.getCurrentThreadAllocatedBytes();
            long second = sumOfAnswers(again, calls);
            long made = threads.getCurrentThreadAllocatedBytes() - before;
            due("the same calls again, of another object", second, first);
            // The least object has 16 bytes: this is far below one for each call.
            due(CALLS + " calls made " + made + " bytes: more than some", made > CALLS / 10 ? 1 : 0, 0);
        }
        end("no call throws or makes an object");
    }
}
