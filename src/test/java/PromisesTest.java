/** Each promise on its own: ordinary inputs, the edges that the document names, wrong inputs. */
public final class PromisesTest extends Checks {
    private static void newObject() {
        CutBlocks x = new CutBlocks();
        for (int t = 0; t < 4; t++) {
            due("size", x.size(t), 0);
            due("blocks", x.blocks(t), 0);
            due("byteAt", x.byteAt(t, 0), BAD);
        }
        for (int what = 0; what < 6; what++) {
            due("kept(" + what + ")", x.kept(what), 0);
        }
        for (int s = 0; s < 10; s++) {
            due("told", x.told(s, 0), BAD);
        }
        // The first seed is 1: its first number is 1664525 + 1013904223, mixed.
        x.add(0, 0);
        due("the first number of the table", x.hash(0, 0), 1015568748L ^ (1015568748L >> 16));
        // The first rules are 0, 4, 64, 3, 0, 1: no mark comes with LEAST below 4, nor behind 64.
        CutBlocks marked = zeros(100, 1);
        due("first LEAST", marked.block(0, 0, 1), 4);
        CutBlocks unmarked = zeros(100, 0x80000000);
        due("first GREATEST", unmarked.block(0, 0, 1), 64);
        CutBlocks two = new CutBlocks();
        two.add(0, 1);
        due("objects share nothing", x.byteAt(0, 0), 0);
    }

    private static void seed() {
        CutBlocks x = new CutBlocks();
        give(x, 0, 0);
        give(x, 3, 0, 255);
        x.rule(0, 1, 1, 9, 0, 1);
        due("keep", x.keep(0), 0);
        int[] seeds = {0, 1, -1, 77, Integer.MAX_VALUE, Integer.MIN_VALUE};
        for (int seed : seeds) {
            due("seed", x.seed(seed), 1);
            int number = seed;
            for (int i = 0; i < 256; i++) {
                number = number * 1664525 + 1013904223;
                if (i == 0 || i == 255) {
                    due("number of " + i, x.hash(3, i == 0 ? 0 : 1), (number ^ (number >>> 16)) & 0xFFFFFFFFL);
                }
            }
        }
        due("kept blocks stay", x.kept(1), 1);
        due("uses stay", x.uses(0, 0), 1);
        x = zeros(100, 1);
        x.copy(2, 0);
        x.rule(0, 24, 40, 9, 0, 1);
        due("blocks of text 2, no marks", x.block(2, 0, 1), 40);
        x.seed(seedFor(-1));
        due("blocks of text 0, marks from 32 on", x.block(0, 0, 1), 32);
        due("blocks of text 2, marks from 32 on", x.block(2, 0, 1), 32);
    }

    private static void ruleMarks() {
        CutBlocks x = zeros(100, 1);
        due("ends at LEAST", firstBlock(x, 0, 23, 80, 9, 0, 1), 23);
        due("no marks any more", firstBlock(x, 0, 24, 80, 9, 0, 1), 80);
        due("8 bits", firstBlock(x, 0, 24, 80, 8, 0, 1), 24);
        due("a multiple of RECORD", firstBlock(x, 0, 6, 80, 9, 0, 5), 10);
        due("the greatest multiple", firstBlock(x, 0, 24, 66, 9, 0, 4), 64);
        due("n and RECORD are GREATEST", firstBlock(x, 0, 24, 64, 9, 0, 4), 64);
        due("LEAST is GREATEST", firstBlock(x, 0, 40, 40, 9, 0, 1), 40);
        due("ends with the text", firstBlock(x, 0, 200, 600, 9, 0, 1), 100);
        x.seed(seedFor(-1));
        due("marks come late", firstBlock(x, 0, 1, 80, 9, 0, 1), 32);
        due("marks come late, RECORD", firstBlock(x, 0, 1, 80, 9, 0, 5), 35);
        due("LEVEL is nothing to mode 0", firstBlock(x, 0, 1, 80, 9, 9, 1), 32);
    }

    private static void ruleLevels() {
        CutBlocks x = zeros(100, 1);
        due("BITS and LEVEL", firstBlock(x, 1, 25, 80, 5, 2, 1), 25);
        due("BITS and LEVEL no more", firstBlock(x, 1, 26, 80, 5, 2, 1), 80);
        due("n is 2^BITS", firstBlock(x, 1, 28, 80, 5, 5, 1), 32);
        due("n is above 2^BITS", firstBlock(x, 1, 33, 80, 5, 5, 1), 33);
        due("the LAST one", firstBlock(x, 1, 28, 30, 5, 5, 1), 30);
        x.seed(seedFor(-1));
        due("BITS less LEVEL", firstBlock(x, 1, 1, 80, 3, 2, 1), 32);
        due("BITS less LEVEL, all", firstBlock(x, 1, 1, 80, 3, 3, 1), 8);
    }

    private static void ruleSecondMarks() {
        CutBlocks x = zeros(40, 1);
        due("the latest second mark", firstBlock(x, 2, 24, 40, 9, 3, 1), 26);
        due("the bytes behind it are a block", x.blocks(0), 2);
        due("the next one's place", x.block(0, 1, 0), 26);
        due("the next one's bytes", x.block(0, 1, 1), 14);
        due("H begins again there", x.hash(0, 26), 1);
        due("the LAST one is not there yet", firstBlock(x, 2, 24, 41, 9, 3, 1), 40);
        due("no second mark", firstBlock(x, 2, 27, 40, 9, 3, 1), 40);
        due("second marks that are not ALLOWED", firstBlock(x, 2, 24, 40, 9, 3, 5), 25);
        due("a first mark goes ahead", firstBlock(x, 2, 23, 40, 9, 3, 1), 23);
        due("LEVEL 0", firstBlock(x, 2, 24, 40, 9, 0, 1), 40);
        due("the LAST one's own second mark is none before it", firstBlock(x, 2, 24, 40, 9, 9, 1), 39);
        due("no byte before the LAST one is ALLOWED", firstBlock(x, 2, 40, 40, 9, 9, 1), 40);
        x.seed(seedFor(-1));
        due("the LAST one is marked", firstBlock(x, 2, 1, 32, 9, 9, 1), 32);
    }

    private static void ruleWindow() {
        CutBlocks x = zeros(40, 1);
        x.rule(3, 40, 40, 9, 0, 1);
        due("H with 2 bytes", x.hash(0, 1), 3);
        due("H with 16 bytes", x.hash(0, 15), 65535);
        due("H with 17 bytes", x.hash(0, 16), 65535);
        due("H with 40 bytes", x.hash(0, 39), 65535);
        due("marks", firstBlock(x, 3, 4, 40, 9, 0, 1), 4);
        x.seed(seedFor(0x80000000));
        x.rule(3, 40, 40, 9, 0, 1);
        due("the highest bit becomes the lowest one", x.hash(0, 1), 0x80000001L);
        due("the window's byte, turned", x.hash(0, 16), 0x80007FFFL);
        due("never marked", firstBlock(x, 3, 4, 38, 9, 0, 1), 38);
        x.rule(3, 20, 20, 9, 0, 1);
        due("the window does not reach the block before", x.hash(0, 20), 0x80000000L);
        due("nor later", x.hash(0, 35), 0x80007FFFL);
    }

    private static void ruleRefused() {
        CutBlocks x = zeros(100, 1);
        x.rule(0, 24, 80, 9, 0, 1);
        int[][] refused = {
            {-1, 4, 64, 3, 0, 1}, {4, 4, 64, 3, 0, 1}, {0, 0, 64, 3, 0, 1}, {0, 201, 300, 3, 0, 1},
            {0, 4, 3, 3, 0, 1}, {0, 4, 601, 3, 0, 1}, {0, 4, 64, 0, 0, 1}, {0, 4, 64, 10, 0, 1},
            {0, 4, 64, 3, -1, 1}, {0, 4, 64, 3, 4, 1}, {0, 4, 64, 3, 0, 0}, {0, 4, 64, 3, 0, 17},
            {0, 5, 7, 3, 0, 4}, {0, 1, 15, 3, 0, 16}, {0, 17, 31, 3, 0, 16}, {0, 4, 64, 3, 0, -4},
            {0, Integer.MIN_VALUE, Integer.MAX_VALUE, 3, 0, 1}, {0, 4, Integer.MAX_VALUE, 3, 0, 1},
        };
        for (int[] r : refused) {
            due("rule", x.rule(r[0], r[1], r[2], r[3], r[4], r[5]), BAD);
            due("the rules are the old ones", x.block(0, 0, 1), 80);
        }
        int[][] fine = {
            {0, 1, 1, 1, 0, 1}, {3, 200, 600, 9, 9, 16}, {1, 16, 16, 1, 1, 16}, {2, 5, 8, 3, 3, 4}, {2, 200, 200, 9, 0, 8},
        };
        for (int[] r : fine) {
            due("rule", x.rule(r[0], r[1], r[2], r[3], r[4], r[5]), 1);
        }
    }

    private static void rule() {
        ruleMarks();
        ruleLevels();
        ruleSecondMarks();
        ruleWindow();
        ruleRefused();
    }

    private static void add() {
        CutBlocks x = new CutBlocks();
        due("add", x.add(0, 0), 1);
        due("add", x.add(0, 255), 2);
        due("add", x.add(3, 7), 1);
        due("add", x.add(0, -1), BAD);
        due("add", x.add(0, 256), BAD);
        for (int t : WRONG_TEXTS) {
            due("add", x.add(t, 1), BAD);
        }
        hasBytes("text 0", x, 0, 0, 255);
        hasBytes("text 3", x, 3, 7);
        x = full();
        due("full", x.add(1, 5), FULL);
        due("BAD goes ahead of FULL", x.add(1, 256), BAD);
        due("size", x.size(1), 1500);
        x.remove(1, 0, 1);
        due("the last room", x.add(1, 5), 1500);
        due("its byte", x.byteAt(1, 1499), 5);
        due("full", x.add(1, 5), FULL);
    }

    private static void fill() {
        CutBlocks x = new CutBlocks();
        x.add(2, 9);
        due("fill", x.fill(2, 3, 7, 256), 4);
        // 7 * 1103515245 + 12345 and so on, in 32 bits.
        int[] bytes = {9, 0, 0, 0};
        long number = 7;
        for (int i = 1; i < 4; i++) {
            number = (number * 1103515245L + 12345L) & 0xFFFFFFFFL;
            bytes[i] = (int) ((number >> 16) % 256);
        }
        hasBytes("text 2", x, 2, bytes);
        due("span 1", x.fill(0, 1, -5, 1), 1);
        hasBytes("span 1", x, 0, 0);
        due("a seed below 0", x.fill(3, 1, Integer.MIN_VALUE, 200), 1);
        number = (0x80000000L * 1103515245L + 12345L) & 0xFFFFFFFFL;
        hasBytes("a seed below 0", x, 3, (int) ((number >> 16) % 200));
        int[][] refused = {{0, 0, 1, 1}, {0, -1, 1, 1}, {0, 401, 1, 1}, {0, 1, 1, 0}, {0, 1, 1, 257}, {0, 1, 1, -1},
            {0, Integer.MAX_VALUE, 1, 1}, {0, Integer.MIN_VALUE, 1, 1}};
        for (int[] r : refused) {
            due("fill", x.fill(r[0], r[1], r[2], r[3]), BAD);
        }
        for (int t : WRONG_TEXTS) {
            due("fill", x.fill(t, 1, 1, 1), BAD);
        }
        due("size", x.size(0), 1);
        x = full();
        x.remove(1, 0, 10);
        due("no room for all", x.fill(1, 11, 1, 1), FULL);
        due("nothing came", x.size(1), 1490);
        due("BAD goes ahead of FULL", x.fill(1, 11, 1, 257), BAD);
        due("room for all", x.fill(1, 10, 1, 1), 1500);
    }

    private static void insert() {
        CutBlocks x = new CutBlocks();
        due("into no bytes", x.insert(0, 0, 5), 1);
        due("ahead", x.insert(0, 0, 4), 2);
        due("behind", x.insert(0, 2, 7), 3);
        due("between", x.insert(0, 2, 6), 4);
        due("at", x.insert(0, 5, 1), BAD);
        due("at", x.insert(0, -1, 1), BAD);
        due("at", x.insert(0, Integer.MAX_VALUE, 1), BAD);
        due("b", x.insert(0, 0, 256), BAD);
        due("b", x.insert(0, 0, -1), BAD);
        for (int t : WRONG_TEXTS) {
            due("text", x.insert(t, 0, 1), BAD);
        }
        hasBytes("text 0", x, 0, 4, 5, 6, 7);
        x = full();
        due("full", x.insert(1, 3, 1), FULL);
        due("full", x.insert(1, 1500, 1), FULL);
        due("BAD goes ahead of FULL", x.insert(1, 1501, 1), BAD);
        due("BAD goes ahead of FULL", x.insert(1, 3, 256), BAD);
    }

    private static void remove() {
        CutBlocks x = new CutBlocks();
        give(x, 0, 1, 2, 3, 4, 5);
        due("between", x.remove(0, 1, 2), 3);
        hasBytes("text 0", x, 0, 1, 4, 5);
        due("none", x.remove(0, 1, 0), 3);
        due("none from the end on", x.remove(0, 3, 0), 3);
        due("behind the end", x.remove(0, 4, 0), BAD);
        due("not so many", x.remove(0, 2, 2), BAD);
        due("not so many", x.remove(0, 1, Integer.MAX_VALUE), BAD);
        due("n below 0", x.remove(0, 1, -1), BAD);
        due("n below 0", x.remove(0, 1, Integer.MIN_VALUE), BAD);
        due("at below 0", x.remove(0, -1, 1), BAD);
        due("at below 0", x.remove(0, -1, 0), BAD);
        due("at", x.remove(0, Integer.MAX_VALUE, Integer.MAX_VALUE), BAD);
        for (int t : WRONG_TEXTS) {
            due("text", x.remove(t, 0, 0), BAD);
        }
        hasBytes("text 0", x, 0, 1, 4, 5);
        due("the last", x.remove(0, 2, 1), 2);
        due("all", x.remove(0, 0, 2), 0);
        due("no blocks", x.blocks(0), 0);
    }

    private static void copy() {
        CutBlocks x = new CutBlocks();
        give(x, 0, 1, 2, 3);
        give(x, 1, 9, 9, 9, 9);
        due("copy", x.copy(1, 0), 3);
        x.add(0, 4);
        hasBytes("the copy stands alone", x, 1, 1, 2, 3);
        due("its own", x.copy(0, 0), 4);
        hasBytes("its own", x, 0, 1, 2, 3, 4);
        due("no bytes", x.copy(0, 3), 0);
        for (int t : WRONG_TEXTS) {
            due("text", x.copy(t, 1), BAD);
            due("from", x.copy(1, t), BAD);
        }
        hasBytes("refusals", x, 1, 1, 2, 3);
    }

    private static void size() {
        CutBlocks x = full();
        due("size", x.size(0), 0);
        due("size", x.size(1), 1500);
        x.remove(1, 7, 100);
        due("size", x.size(1), 1400);
        for (int t : WRONG_TEXTS) {
            due("text", x.size(t), BAD);
        }
    }

    private static void byteAt() {
        CutBlocks x = new CutBlocks();
        give(x, 2, 0, 128, 255);
        hasBytes("text 2", x, 2, 0, 128, 255);
        due("i", x.byteAt(2, 3), BAD);
        due("i", x.byteAt(2, -1), BAD);
        due("i", x.byteAt(2, Integer.MAX_VALUE), BAD);
        x.remove(2, 0, 1);
        due("a byte that went", x.byteAt(2, 2), BAD);
        for (int t : WRONG_TEXTS) {
            due("text", x.byteAt(t, 0), BAD);
        }
    }

    private static void blocks() {
        CutBlocks x = full();
        due("no bytes", x.blocks(0), 0);
        x.rule(0, 1, 1, 1, 0, 1);
        due("a block each byte", x.blocks(1), 1500);
        x.rule(0, 200, 200, 9, 0, 1);
        due("200 each", x.blocks(1), 8);
        x.remove(1, 0, 100);
        due("after a change", x.blocks(1), 7);
        x.add(0, 1);
        due("one byte", x.blocks(0), 1);
        x.remove(0, 0, 1);
        due("no byte", x.blocks(0), 0);
        for (int t : WRONG_TEXTS) {
            due("text", x.blocks(t), BAD);
        }
    }

    private static void block() {
        CutBlocks x = full();
        x.rule(0, 200, 200, 9, 0, 1);
        for (int k = 0; k < 8; k++) {
            due("place", x.block(1, k, 0), 200 * k);
            due("bytes", x.block(1, k, 1), k < 7 ? 200 : 100);
        }
        due("k", x.block(1, 8, 0), BAD);
        due("k", x.block(1, -1, 0), BAD);
        due("k", x.block(0, 0, 0), BAD);
        due("k", x.block(1, Integer.MAX_VALUE, 1), BAD);
        due("what", x.block(1, 0, 2), BAD);
        due("what", x.block(1, 0, -1), BAD);
        for (int t : WRONG_TEXTS) {
            due("text", x.block(t, 0, 0), BAD);
        }
        x.remove(1, 0, 201);
        due("a change moves the cuts", x.block(1, 6, 1), 99);
    }

    private static void digest() {
        CutBlocks x = new CutBlocks();
        x.rule(0, 9, 9, 9, 0, 1);
        // 'Wikipedia' and 'a' have digests that are widely known.
        give(x, 0, 'W', 'i', 'k', 'i', 'p', 'e', 'd', 'i', 'a', 'a');
        due("Wikipedia, manner 1", x.digest(0, 0, 1), 0x11E60398L);
        due("a, manner 0", x.digest(0, 1, 0), 0xE40C292CL);
        due("a, manner 1", x.digest(0, 1, 1), 0x00620062L);
        give(x, 0, 'f', 'o', 'o', 'b', 'a', 'r');
        due("foobar, manner 0", x.digest(0, 0, 0), 0xBF9CF968L);
        x.remove(0, 0, 6);
        x.rule(0, 200, 600, 9, 0, 1);
        x.seed(seedFor(1));
        for (int i = 0; i < 300; i++) {
            x.add(0, 255);
        }
        x.rule(0, 200, 300, 9, 0, 1);
        int n = x.block(0, 0, 1);
        long a = (1 + 255L * n) % 65521;
        long b = 0;
        for (int i = 1; i <= n; i++) {
            b += 1 + 255L * i;
        }
        due("modulo 65521", x.digest(0, 0, 1), 65536 * (b % 65521) + a);
        due("k", x.digest(0, x.blocks(0), 0), -1);
        due("k", x.digest(0, -1, 1), -1);
        due("k", x.digest(1, 0, 1), -1);
        due("manner", x.digest(0, 0, 2), -1);
        due("manner", x.digest(0, 0, -1), -1);
        for (int t : WRONG_TEXTS) {
            due("text", x.digest(t, 0, 0), -1);
        }
    }

    private static void hash() {
        CutBlocks x = zeros(100, 1);
        x.rule(0, 40, 40, 9, 0, 1);
        due("the first byte", x.hash(0, 0), 1);
        due("the 10th byte", x.hash(0, 9), 1023);
        due("32 bits", x.hash(0, 39), 4294967295L);
        due("the next block's first", x.hash(0, 40), 1);
        due("the last one's last", x.hash(0, 99), (1L << 20) - 1);
        x.insert(0, 0, 0);
        due("after a change", x.hash(0, 100), (1L << 21) - 1);
        due("i", x.hash(0, 101), -1);
        due("i", x.hash(0, -1), -1);
        due("i", x.hash(1, 0), -1);
        for (int t : WRONG_TEXTS) {
            due("text", x.hash(t, 0), -1);
        }
        for (int mode = 0; mode < 3; mode++) {
            x.rule(mode, 200, 200, 9, 0, 1);
            due("modes 0 to 2", x.hash(0, 3), 15);
        }
        give(x, 2, 17, 200);
        int[] table = new int[256];
        int number = seedFor(1);
        for (int i = 0; i < 256; i++) {
            number = number * 1664525 + 1013904223;
            table[i] = number ^ (number >>> 16);
        }
        due("two bytes", x.hash(2, 1), (2 * table[17] + table[200]) & 0xFFFFFFFFL);
        x.rule(3, 200, 200, 9, 0, 1);
        due("two bytes, mode 3", x.hash(2, 1), (Integer.rotateLeft(table[17], 1) ^ table[200]) & 0xFFFFFFFFL);
    }

    private static void alike() {
        CutBlocks x = new CutBlocks();
        x.rule(0, 2, 2, 9, 0, 1);
        give(x, 0, 1, 1, 2, 2, 3, 3, 1, 1, 4);
        give(x, 1, 1, 1, 2, 2, 1, 1, 4, 1, 1, 4);
        alikeIs(x, 0, 1, 3, 6, 2, 0);
        alikeIs(x, 1, 0, 3, 6, 2, 0);
        give(x, 1, 1, 1, 5, 5, 1, 1, 4);
        alikeIs(x, 0, 1, 3, 5, 1, 2);
        alikeIs(x, 1, 0, 3, 5, 1, 2);
        give(x, 2, 1, 1);
        alikeIs(x, 0, 2, 2, 4, 1, 0);
        alikeIs(x, 2, 0, 1, 2, 1, 0);
        alikeIs(x, 0, 0, 5, 9, 5, 5);
        alikeIs(x, 0, 3, 0, 0, 0, 0);
        alikeIs(x, 3, 0, 0, 0, 0, 0);
        alikeIs(x, 3, 3, 0, 0, 0, 0);
        // A short block is no like one of a longer one that begins with it.
        give(x, 2, 1);
        alikeIs(x, 2, 0, 0, 0, 0, 0);
        for (int t : WRONG_TEXTS) {
            due("text", x.alike(t, 0, 0), BAD);
            due("other", x.alike(0, t, 0), BAD);
        }
        due("what", x.alike(0, 1, 4), BAD);
        due("what", x.alike(0, 1, -1), BAD);
    }

    private static void keepNumbers() {
        CutBlocks x = new CutBlocks();
        for (int s = 0; s < 10; s++) {
            due("of no bytes", x.keep(0), s);
        }
        due("ten are there", x.keep(0), FULL);
        x.drop(7);
        x.drop(3);
        due("the least number", x.keep(0), 3);
        due("the next one", x.keep(0), 7);
        due("ten are there", x.keep(0), FULL);
        for (int t : WRONG_TEXTS) {
            due("BAD goes ahead of FULL", x.keep(t), BAD);
        }
        keptIs(x, 10, 0, 0, 0);
    }

    private static void keepToTheLastBlock() {
        CutBlocks x = new CutBlocks();
        x.rule(0, 2, 2, 9, 0, 1);
        giveDifferentPairs(x, 0, 300);
        due("300 blocks", x.keep(0), 0);
        keptIs(x, 1, 300, 600, 300);
        x.copy(1, 0);
        x.add(1, 1);
        due("301 blocks", x.keep(1), FULL);
        keptIs(x, 1, 300, 600, 300);
        due("the same 300", x.keep(0), 1);
        keptIs(x, 2, 300, 600, 600);
        x.drop(0);
        x.drop(1);
        due("301 blocks at once", x.keep(1), FULL);
        keptIs(x, 0, 0, 0, 0);
        due("pairs of what did not come", x.kept(4), 0);
        due("300 blocks again", x.keep(0), 0);
        due("uses", x.uses(0, 299), 1);
    }

    private static void keepToTheLastByte() {
        CutBlocks x = new CutBlocks();
        x.rule(0, 100, 100, 9, 0, 1);
        for (int t = 0; t < 4; t++) {
            for (int part = 0; part < 15; part++) {
                x.fill(t, 100, 1000 * t + 17 * part, 256);
            }
        }
        for (int t = 0; t < 4; t++) {
            due("1500 bytes", x.keep(t), t);
        }
        keptIs(x, 4, 60, 6000, 60);
        give(x, 0, 1);
        due("6001 bytes", x.keep(0), FULL);
        keptIs(x, 4, 60, 6000, 60);
        due("no byte more", x.keep(1), 4);
        x.drop(0);
        due("4501 bytes", x.keep(0), 0);
        keptIs(x, 5, 46, 4501, 61);
        x.restore(3, 0);
        x.insert(0, 0, 1);
        x.insert(0, 0, 1);
        due("no more than a text's", x.size(0), 1500);
        x.remove(0, 0, 1);
        x.insert(0, 0, x.byteAt(0, 0) ^ 1);
        due("14 like blocks and another one", x.keep(0), 5);
        keptIs(x, 6, 47, 4601, 76);
    }

    private static void keep() {
        CutBlocks x = new CutBlocks();
        x.rule(0, 2, 2, 9, 0, 1);
        give(x, 0, 1, 1, 2, 2, 1, 1, 1);
        due("keep", x.keep(0), 0);
        keptIs(x, 1, 3, 5, 4);
        due("told", x.told(0, 0), 4);
        give(x, 0, 2, 2, 3, 3);
        due("keep", x.keep(0), 1);
        keptIs(x, 2, 4, 7, 6);
        // Other rules cut other blocks, and what is kept stays as it was.
        x.rule(0, 4, 4, 9, 0, 1);
        due("keep", x.keep(0), 2);
        keptIs(x, 3, 5, 11, 7);
        due("told", x.told(1, 0), 2);
        keepWordsOfOneDigest();
        keepNumbers();
        keepToTheLastBlock();
        keepToTheLastByte();
    }

    private static void giveWord(CutBlocks x, int text, String word) {
        x.remove(text, 0, x.size(text));
        for (char c : word.toCharArray()) {
            x.add(text, c);
        }
    }

    /** Words of one DIGEST of manner 0 are different blocks all the same. */
    private static void keepWordsOfOneDigest() {
        String[][] words = {{"declinate", "macallums"}, {"costarring", "liquid"}, {"zinke", "altarage"}};
        for (String[] two : words) {
            CutBlocks x = new CutBlocks();
            x.rule(0, 20, 20, 9, 0, 1);
            giveWord(x, 0, two[0]);
            giveWord(x, 1, two[1]);
            due("their digests differ by", x.digest(0, 0, 0) - x.digest(1, 0, 0), 0);
            alikeIs(x, 0, 1, 0, 0, 0, 0);
            x.keep(0);
            due("uses", x.uses(1, 0), 0);
            x.keep(1);
            keptIs(x, 2, 2, two[0].length() + two[1].length(), 2);
            due("pairs", x.kept(4), 1);
            x.restore(1, 2);
            alikeIs(x, 2, 1, 1, two[1].length(), 1, 1);
        }
    }

    private static void drop() {
        CutBlocks x = new CutBlocks();
        x.rule(0, 2, 2, 9, 0, 1);
        give(x, 0, 1, 1, 2, 2, 1, 1, 1);
        give(x, 1, 2, 2, 3, 3, 3, 3);
        x.keep(0);
        x.keep(1);
        x.keep(0);
        due("all its blocks have uses", x.drop(0), 0);
        keptIs(x, 2, 4, 7, 7);
        due("it is not there", x.drop(0), BAD);
        due("the block that only it has, once", x.drop(1), 2);
        keptIs(x, 1, 3, 5, 4);
        due("what is left is whole", x.restore(2, 3), 7);
        hasBytes("restored", x, 3, 1, 1, 2, 2, 1, 1, 1);
        due("uses", x.uses(0, 0), 2);
        due("uses", x.uses(1, 1), 0);
        due("the rest", x.drop(2), 5);
        keptIs(x, 0, 0, 0, 0);
        due("drop", x.drop(-1), BAD);
        due("drop", x.drop(10), BAD);
        due("drop", x.drop(Integer.MAX_VALUE), BAD);
        due("drop", x.drop(Integer.MIN_VALUE), BAD);
        x.keep(3);
        due("a text stays", x.size(0), 7);
        keptIs(x, 1, 3, 5, 4);
        dropMovesNothingElse();
    }

    private static void dropMovesNothingElse() {
        CutBlocks x = new CutBlocks();
        x.rule(0, 2, 2, 9, 0, 1);
        give(x, 0, 9, 9, 8, 8, 7);
        give(x, 1, 5, 5, 8, 8, 6, 6, 5, 5);
        x.keep(0);
        x.keep(1);
        due("the first snapshot's own blocks", x.drop(0), 3);
        due("restore", x.restore(1, 2), 8);
        hasBytes("restored", x, 2, 5, 5, 8, 8, 6, 6, 5, 5);
        due("uses", x.uses(1, 0), 2);
        due("uses", x.uses(1, 1), 1);
        due("uses", x.uses(0, 0), 0);
        due("keep", x.keep(0), 0);
        due("restore", x.restore(0, 3), 5);
        hasBytes("restored", x, 3, 9, 9, 8, 8, 7);
        keptIs(x, 2, 5, 9, 7);
    }

    private static void restore() {
        CutBlocks x = new CutBlocks();
        x.rule(0, 2, 2, 9, 0, 1);
        give(x, 0, 5, 5, 6, 6, 5, 5, 7);
        x.keep(0);
        x.keep(1);
        give(x, 0, 9);
        x.keep(0);
        due("its bytes in their order", x.restore(0, 2), 7);
        hasBytes("restored", x, 2, 5, 5, 6, 6, 5, 5, 7);
        x.seed(99);
        x.rule(3, 200, 600, 9, 0, 16);
        due("under other rules", x.restore(0, 0), 7);
        hasBytes("restored", x, 0, 5, 5, 6, 6, 5, 5, 7);
        due("its blocks are by the new rules", x.blocks(0), 1);
        due("no bytes", x.restore(1, 0), 0);
        due("size", x.size(0), 0);
        due("snapshot", x.restore(3, 2), BAD);
        due("snapshot", x.restore(-1, 2), BAD);
        due("snapshot", x.restore(10, 2), BAD);
        for (int t : WRONG_TEXTS) {
            due("text", x.restore(0, t), BAD);
        }
        hasBytes("refusals", x, 2, 5, 5, 6, 6, 5, 5, 7);
        keptIs(x, 3, 4, 6, 5);
        x = full();
        x.keep(1);
        due("1500 bytes", x.restore(0, 3), 1500);
        due("alike", x.alike(3, 1, 1), 1500);
    }

    private static void told() {
        CutBlocks x = new CutBlocks();
        x.rule(0, 2, 2, 9, 0, 1);
        give(x, 0, 5, 5, 6, 6, 5, 5, 7);
        x.keep(0);
        x.keep(1);
        due("blocks, like ones too", x.told(0, 0), 4);
        due("bytes, of like ones too", x.told(0, 1), 7);
        due("no blocks", x.told(1, 0), 0);
        due("no bytes", x.told(1, 1), 0);
        x.rule(0, 1, 1, 9, 0, 1);
        due("blocks as they were", x.told(0, 0), 4);
        due("what", x.told(0, 2), BAD);
        due("what", x.told(0, -1), BAD);
        due("snapshot", x.told(2, 0), BAD);
        due("snapshot", x.told(-1, 0), BAD);
        due("snapshot", x.told(10, 0), BAD);
        x.drop(0);
        due("it went", x.told(0, 0), BAD);
    }

    private static void uses() {
        CutBlocks x = new CutBlocks();
        x.rule(0, 2, 2, 9, 0, 1);
        give(x, 0, 5, 5, 6, 6, 5, 5, 7);
        due("nothing is kept", x.uses(0, 0), 0);
        x.keep(0);
        give(x, 1, 7, 5, 7, 5, 5, 5, 7);
        due("none has its bytes", x.uses(1, 0), 0);
        due("two places", x.uses(1, 2), 2);
        due("one place", x.uses(1, 3), 1);
        x.keep(0);
        due("four places", x.uses(1, 2), 4);
        x.drop(0);
        due("two places", x.uses(1, 2), 2);
        x.drop(1);
        due("no place", x.uses(1, 2), 0);
        due("k", x.uses(1, 4), BAD);
        due("k", x.uses(1, -1), BAD);
        due("k", x.uses(2, 0), BAD);
        for (int t : WRONG_TEXTS) {
            due("text", x.uses(t, 0), BAD);
        }
    }

    private static long key(int b) {
        return ((2166136261L ^ b) * 16777619L) & 255;
    }

    private static void kept() {
        CutBlocks x = new CutBlocks();
        // Blocks of one byte have different KEYS: the factor is odd. So one byte and pairs with its KEY.
        x.rule(0, 1, 1, 9, 0, 1);
        for (int b = 0; b < 256; b += 2) {
            x.add(0, b);
        }
        x.keep(0);
        keptIs(x, 1, 128, 128, 128);
        due("no pairs", x.kept(4), 0);
        due("one block a KEY", x.kept(5), 1);
        x.rule(0, 2, 2, 9, 0, 1);
        int found = 0;
        for (int b = 1; found < 3; b++) {
            for (int c = 0; c < 256; c++) {
                long h = ((((2166136261L ^ b) * 16777619L) & 0xFFFFFFFFL) ^ c) * 16777619L & 255;
                if (h == key(0) && found < 3) {
                    x.add(1, b);
                    x.add(1, c);
                    found++;
                    break;
                }
            }
        }
        x.keep(1);
        keptIs(x, 2, 131, 134, 131);
        due("pairs of four", x.kept(4), 6);
        due("four of one KEY", x.kept(5), 4);
        x.drop(0);
        due("pairs of three", x.kept(4), 3);
        due("three of one KEY", x.kept(5), 3);
        due("what", x.kept(-1), BAD);
        due("what", x.kept(6), BAD);
        due("what", x.kept(Integer.MIN_VALUE), BAD);
    }

    public static void main(String[] args) {
        for (int promise = 1; promise <= 21; promise++) {
            at("promise " + promise);
            switch (promise) {
                case 1: newObject(); break;
                case 2: seed(); break;
                case 3: rule(); break;
                case 4: add(); break;
                case 5: fill(); break;
                case 6: insert(); break;
                case 7: remove(); break;
                case 8: copy(); break;
                case 9: size(); break;
                case 10: byteAt(); break;
                case 11: blocks(); break;
                case 12: block(); break;
                case 13: digest(); break;
                case 14: hash(); break;
                case 15: alike(); break;
                case 16: keep(); break;
                case 17: drop(); break;
                case 18: restore(); break;
                case 19: told(); break;
                case 20: uses(); break;
                default: kept(); break;
            }
        }
        end("all promises hold");
    }
}
