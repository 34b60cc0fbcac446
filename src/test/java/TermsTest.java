import java.util.Arrays;
import java.util.LinkedHashMap;
import java.util.Map;

/** The boundary cases of the document's Terms, but for REFUSALS: a test for each sentence. */
public final class TermsTest extends Checks {
    private interface OfText {
        long of(CutBlocks x, int text);
    }

    private static final Map<String, OfText> CALLS_OF_A_TEXT = new LinkedHashMap<>();

    static {
        CALLS_OF_A_TEXT.put("add", (x, t) -> x.add(t, 1));
        CALLS_OF_A_TEXT.put("fill", (x, t) -> x.fill(t, 1, 1, 1));
        CALLS_OF_A_TEXT.put("insert", (x, t) -> x.insert(t, 0, 1));
        CALLS_OF_A_TEXT.put("remove", (x, t) -> x.remove(t, 0, 1));
        CALLS_OF_A_TEXT.put("copy to", (x, t) -> x.copy(t, 1));
        CALLS_OF_A_TEXT.put("copy from", (x, t) -> x.copy(1, t));
        CALLS_OF_A_TEXT.put("size", (x, t) -> x.size(t));
        CALLS_OF_A_TEXT.put("byteAt", (x, t) -> x.byteAt(t, 0));
        CALLS_OF_A_TEXT.put("blocks", (x, t) -> x.blocks(t));
        CALLS_OF_A_TEXT.put("block", (x, t) -> x.block(t, 0, 0));
        CALLS_OF_A_TEXT.put("digest", (x, t) -> x.digest(t, 0, 0));
        CALLS_OF_A_TEXT.put("hash", (x, t) -> x.hash(t, 0));
        CALLS_OF_A_TEXT.put("alike", (x, t) -> x.alike(t, 1, 0));
        CALLS_OF_A_TEXT.put("alike other", (x, t) -> x.alike(1, t, 0));
        CALLS_OF_A_TEXT.put("keep", (x, t) -> x.keep(t));
        CALLS_OF_A_TEXT.put("restore", (x, t) -> x.restore(0, t));
        CALLS_OF_A_TEXT.put("uses", (x, t) -> x.uses(t, 0));
    }

    private static CutBlocks withFourTexts() {
        CutBlocks x = new CutBlocks();
        for (int t = 0; t < 4; t++) {
            give(x, t, 7, 8 + t);
        }
        x.keep(2);
        return x;
    }

    @Sentence("An object is used for at most 512 calls after it has been made")
    static void theLastCalls() {
        CutBlocks x = new CutBlocks();
        for (int i = 1; i <= 511; i++) {
            due("add " + i, x.add(0, i % 256), i);
        }
        due("the 512th call", x.size(0), 511);
        CutBlocks y = new CutBlocks();
        y.fill(0, 400, 3, 256);
        for (int i = 0; i < 255; i++) {
            due("keep", y.keep(0), 0);
            due("drop", y.drop(0), 400);
        }
        due("the 512th call", y.keep(0), 0);
    }

    @Sentence("TEXTS 0 .. 3")
    static void textNumbers() {
        for (Map.Entry<String, OfText> call : CALLS_OF_A_TEXT.entrySet()) {
            for (int t = 0; t < 4; t++) {
                due(call.getKey() + " of text " + t + " is refused", call.getValue().of(withFourTexts(), t) < 0 ? 1 : 0, 0);
            }
            for (int t : WRONG_TEXTS) {
                due(call.getKey() + " of text " + t, call.getValue().of(withFourTexts(), t), BAD);
            }
        }
    }

    @Sentence("have up to 1500 bytes each")
    static void textBytes() {
        CutBlocks x = full();
        due("add behind 1500", x.add(1, 1), FULL);
        due("insert to 1500", x.insert(1, 0, 1), FULL);
        due("fill behind 1500", x.fill(1, 1, 1, 1), FULL);
        x.remove(1, 0, 1);
        due("the 1500th, by add", x.add(1, 1), 1500);
        x.remove(1, 1499, 1);
        due("the 1500th, by insert", x.insert(1, 0, 1), 1500);
        x.remove(1, 700, 1);
        due("two behind 1499", x.fill(1, 2, 1, 1), FULL);
        due("the 1500th, by fill", x.fill(1, 1, 1, 1), 1500);
        for (int t = 0; t < 4; t++) {
            due("each has so many", x.copy(t, 1), 1500);
            due("and no more", x.add(t, 1), FULL);
        }
        due("the last byte", x.byteAt(3, 1499), 0);
        due("no byte behind it", x.byteAt(3, 1500), BAD);
    }

    @Sentence("bytes (0 .. 255)")
    static void byteValues() {
        CutBlocks x = new CutBlocks();
        due("add 0", x.add(0, 0), 1);
        due("add 255", x.add(0, 255), 2);
        due("insert 0", x.insert(0, 0, 0), 3);
        due("insert 255", x.insert(0, 0, 255), 4);
        int[] wrong = {-1, 256, LOW, HIGH, -256, 511};
        for (int b : wrong) {
            due("add " + b, x.add(0, b), BAD);
            due("insert " + b, x.insert(0, 0, b), BAD);
        }
        hasBytes("text 0", x, 0, 255, 0, 0, 255);
    }

    @Sentence("none at first")
    static void noBytesAtFirst() {
        CutBlocks x = new CutBlocks();
        for (int t = 0; t < 4; t++) {
            due("size", x.size(t), 0);
            due("byte 0", x.byteAt(t, 0), BAD);
            due("blocks", x.blocks(t), 0);
            due("hash of byte 0", x.hash(t, 0), NOTHING);
        }
    }

    private static void hasTable(CutBlocks x, long[] table, int from) {
        x.rule(0, 1, 1, 9, 0, 1);
        for (int b = from; b < from + 128; b++) {
            x.add(2, b);
        }
        for (int b = from; b < from + 128; b++) {
            due("the number of " + b, x.hash(2, b - from), table[b]);
        }
    }

    @Sentence("256 numbers of 32 bits, of a SEED: x becomes x times 1664525 and 1013904223 (32 bits, wrapping)")
    static void theTable() {
        int[] seeds = {0, 1, -1, 2, 123456789, HIGH, LOW};
        for (int seed : seeds) {
            for (int from = 0; from < 256; from += 128) {
                CutBlocks x = new CutBlocks();
                x.seed(seed);
                hasTable(x, table(seed), from);
            }
        }
    }

    @Sentence("which is x xor x moved right by 16 (0s come in)")
    static void zerosComeIn() {
        // With x = -1, 1s that came in would make the number 0.
        CutBlocks x = new CutBlocks();
        x.seed(seedFor(0xFFFF0000));
        x.add(0, 0);
        due("the number of x = -1", x.hash(0, 0), 0xFFFF0000L);
        x.seed(seedFor(0x80008000));
        due("the number of x = -2^31", x.hash(0, 0), 0x80008000L);
    }

    @Sentence("the SEED (1 at first)")
    static void seedAtFirst() {
        hasTable(new CutBlocks(), table(1), 0);
        hasTable(new CutBlocks(), table(1), 128);
    }

    @Sentence("RULES: at first 0, 4, 64, 3, 0, 1")
    static void rulesAtFirst() {
        due("LEAST is 4", zeros(100, ALWAYS).block(0, 0, 1), 4);
        due("GREATEST is 64", zeros(100, NEVER).block(0, 0, 1), 64);
        due("BITS are 3", zeros(100, markedFrom(3)).block(0, 0, 1), 4);
        due("BITS are not 2", zeros(100, markedFrom(2)).block(0, 0, 1), 64);
        due("RECORD is 1", zeros(100, markedFrom(4)).block(0, 0, 1), 5);
        due("MODE is not 3", zeros(100, NEVER).hash(0, 1), 0x80000000L);
    }

    @Sentence("BLOCKS of a TEXT stand one behind the other, from its first byte on")
    static void oneBehindTheOther() {
        for (int mode = 0; mode < 4; mode++) {
            CutBlocks x = full();
            due("rule", x.rule(mode, 2, 40, 4, 2, 2), 1);
            int end = 0;
            int blocks = x.blocks(1);
            for (int k = 0; k < blocks; k++) {
                due("place of block " + k + ", mode " + mode, x.block(1, k, 0), end);
                end += x.block(1, k, 1);
            }
            due("the bytes of all, mode " + mode, end, 1500);
        }
    }

    @Sentence("H, 0 at first, becomes for each of its bytes H moved left by 1, and the number of the byte")
    static void theNumberThatGoesAlong() {
        for (int mode = 0; mode < 3; mode++) {
            CutBlocks x = zeros(100, 0x80000001);
            x.rule(mode, 40, 40, 9, 0, 1);
            due("with 1 byte", x.hash(0, 0), 0x80000001L);
            due("the highest bit goes", x.hash(0, 1), 0x80000003L);
            due("with 31 bytes", x.hash(0, 30), 0xFFFFFFFFL);
            due("with 32 bytes", x.hash(0, 31), 0x7FFFFFFFL);
            due("with 33 bytes", x.hash(0, 32), 0x7FFFFFFFL);
            due("0 again with the next block", x.hash(0, 40), 0x80000001L);
            due("and it goes along there", x.hash(0, 41), 0x80000003L);
            x.seed(seedFor(-1));
            due("the sum wraps", x.hash(0, 1), 0xFFFFFFFDL);
            due("to 1", x.hash(0, 31), 1);
        }
    }

    @Sentence("with MODE 3: H turned left by 1 (its highest bit becomes the lowest one)")
    static void turnedLeft() {
        CutBlocks x = zeros(20, NEVER);
        x.rule(3, 20, 20, 9, 0, 1);
        due("with 1 byte", x.hash(0, 0), 0x80000000L);
        due("with 2 bytes", x.hash(0, 1), 0x80000001L);
        due("with 3 bytes", x.hash(0, 2), 0x80000003L);
    }

    @Sentence("and, from its 17th byte on, xor the number of the byte 16 before that, turned left by 16")
    static void fromThe17thByteOn() {
        CutBlocks x = new CutBlocks();
        int[] bytes = filled(100, 5, 256);
        x.fill(0, 100, 5, 256);
        x.rule(3, 40, 40, 9, 0, 1);
        int cut = x.block(0, 0, 1);
        long[] table = table(1);
        int[] places = {14, 15, 16, 17, 18, 31, 32, 33, 39, 40, 54, 55, 56, 57, 79};
        for (int i : places) {
            // What 16 bytes have left in H goes again: only the latest 16 of the block are in it.
            int start = i < cut ? 0 : cut;
            int h = 0;
            for (int back = 0; back < 16 && i - back >= start; back++) {
                h ^= Integer.rotateLeft((int) table[bytes[i - back]], back);
            }
            due("H with byte " + i, x.hash(0, i), unsigned(h));
        }
        due("the first block's bytes", cut, 40);
    }

    @Sentence("H has b MARKED if its b highest bits are 0")
    static void marked() {
        for (int b = 1; b <= 9; b++) {
            CutBlocks x = zeros(100, markedFrom(b));
            due(b + " of " + b, firstBlock(x, 0, 1, 64, b, 0, 1), b + 1);
            if (b < 9) {
                due(b + 1 + " of " + b, firstBlock(x, 0, 1, 64, b + 1, 0, 1), 64);
            }
        }
        for (int b = 10; b <= 18; b++) {
            CutBlocks x = zeros(100, markedFrom(b));
            due(b + " of " + b, firstBlock(x, 1, 1, 64, 9, b - 9, 1), b + 1);
            if (b < 18) {
                due(b + 1 + " of " + b, firstBlock(x, 1, 1, 64, 9, b - 8, 1), 64);
            }
        }
    }

    @Sentence("its b highest bits are 0 (no bits at all)")
    static void noBitsAreMarked() {
        CutBlocks x = zeros(100, NEVER);
        due("MODE 1, 1 less 1", firstBlock(x, 1, 2, 64, 1, 1, 1), 2);
        due("MODE 1, 5 less 5", firstBlock(x, 1, 32, 64, 5, 5, 1), 32);
        due("MODE 1, 5 less 4", firstBlock(x, 1, 32, 64, 5, 4, 1), 64);
        due("MODE 2, 5 less 5", firstBlock(x, 2, 1, 64, 5, 5, 1), 63);
        due("MODE 2, 5 less 4", firstBlock(x, 2, 1, 64, 5, 4, 1), 64);
    }

    @Sentence("A byte is ALLOWED if n is, with it, LEAST or more")
    static void allowedFromLeastOn() {
        int[] leasts = {1, 2, 3, 31, 32, 33, 199, 200};
        for (int mode = 0; mode < 4; mode++) {
            CutBlocks x = zeros(700, ALWAYS);
            for (int least : leasts) {
                due("MODE " + mode + ", LEAST " + least, firstBlock(x, mode, least, 600, 9, 4, 1), least);
                due("and the next one", x.block(0, 1, 1), least);
            }
        }
    }

    @Sentence("and a multiple of RECORD")
    static void allowedByRecord() {
        int[][] cases = {{1, 2, 2}, {1, 16, 16}, {15, 16, 16}, {16, 16, 16}, {17, 16, 32}, {200, 16, 208}, {7, 7, 7},
            {8, 7, 14}, {5, 3, 6}, {6, 3, 6}, {200, 15, 210}, {1, 1, 1}};
        for (int mode = 0; mode < 4; mode++) {
            CutBlocks x = zeros(700, ALWAYS);
            for (int[] c : cases) {
                due("MODE " + mode + ", LEAST " + c[0] + ", RECORD " + c[1],
                        firstBlock(x, mode, c[0], 600, 9, 4, c[1]), c[2]);
                due("and the next one", x.block(0, 1, 1), c[2]);
            }
        }
    }

    @Sentence("it is the LAST one if, besides, n and RECORD are more than GREATEST together")
    static void theLastOne() {
        int[][] cases = {{1, 1, 1, 1}, {1, 2, 1, 2}, {4, 64, 1, 64}, {1, 599, 1, 599}, {1, 600, 1, 600}, {200, 200, 1, 200},
            {1, 600, 16, 592}, {1, 600, 15, 600}, {1, 600, 7, 595}, {1, 16, 16, 16}, {1, 31, 16, 16}, {1, 32, 16, 32},
            {1, 33, 16, 32}, {16, 31, 16, 16}, {17, 32, 16, 32}, {200, 200, 8, 200}, {200, 207, 8, 200}, {200, 208, 8, 208}};
        for (int mode = 0; mode < 4; mode++) {
            CutBlocks x = zeros(1300, NEVER);
            for (int[] c : cases) {
                due("MODE " + mode + ", LEAST " + c[0] + ", GREATEST " + c[1] + ", RECORD " + c[2],
                        firstBlock(x, mode, c[0], c[1], 9, 0, c[2]), c[3]);
                due("and the next one", x.block(0, 1, 1), c[3]);
            }
        }
    }

    @Sentence("0 and 3: BITS are MARKED, or it is the LAST one")
    static void modes0And3() {
        CutBlocks x = zeros(700, 1);
        due("MODE 0, the latest that is MARKED", firstBlock(x, 0, 23, 64, 9, 9, 1), 23);
        due("MODE 0, none is MARKED", firstBlock(x, 0, 24, 64, 9, 9, 1), 64);
        due("MODE 3, MARKED: only 16 bits are 1", firstBlock(x, 3, 200, 600, 9, 9, 1), 200);
        x.seed(seedFor(0x00010000));
        // With n bytes the bits from 16 to 15 + n are 1: 9 highest ones are 0 up to n = 7.
        due("MODE 3, the latest that is MARKED", firstBlock(x, 3, 7, 64, 9, 9, 1), 7);
        due("MODE 3, none is MARKED", firstBlock(x, 3, 8, 64, 9, 9, 1), 64);
    }

    @Sentence("1: BITS and LEVEL are MARKED, with n below 2^BITS; else BITS less LEVEL")
    static void mode1BelowAPower() {
        for (int bits = 1; bits <= 9; bits++) {
            int power = 1 << bits;
            CutBlocks x = zeros(700, NEVER);
            due(bits + ": n is 2^BITS", firstBlock(x, 1, 1, 600, bits, bits, 1), power);
            x.seed(seedFor(ALWAYS));
            int below = Math.min(200, power - 1);
            due(bits + ": n is below 2^BITS", firstBlock(x, 1, below, 600, bits, bits, 1), below);
        }
        CutBlocks x = zeros(700, NEVER);
        due("the LAST one, one below 2^BITS", firstBlock(x, 1, 1, 511, 9, 9, 1), 511);
        due("the first multiple from 2^BITS on", firstBlock(x, 1, 1, 600, 9, 9, 15), 525);
        due("2^BITS is a multiple", firstBlock(x, 1, 1, 600, 9, 9, 16), 512);
    }

    @Sentence("BITS and LEVEL are MARKED .. else BITS less LEVEL (just so many, and one fewer)")
    static void mode1Levels() {
        due("7 are MARKED below 32", firstBlock(zeros(100, markedFrom(7)), 1, 1, 64, 5, 2, 1), 8);
        due("6 are, up to 32", firstBlock(zeros(100, markedFrom(6)), 1, 1, 64, 5, 2, 1), 32);
        due("3 are, from 32 on", firstBlock(zeros(100, markedFrom(3)), 1, 1, 64, 5, 2, 1), 32);
        due("2 are", firstBlock(zeros(100, markedFrom(2)), 1, 1, 64, 5, 2, 1), 64);
        due("LEVEL 0: 5 are, below 32", firstBlock(zeros(100, markedFrom(5)), 1, 1, 64, 5, 0, 1), 6);
        due("LEVEL 0: 4 are", firstBlock(zeros(100, markedFrom(4)), 1, 1, 64, 5, 0, 1), 64);
    }

    @Sentence("2: BITS are MARKED")
    static void mode2Marks() {
        // H is 01011.. with the first byte, and 00001.. with the second one.
        CutBlocks x = zeros(100, 0x58000000);
        due("the LAST one is MARKED, another had BITS less LEVEL", firstBlock(x, 2, 1, 2, 4, 3, 1), 2);
        due("it is not MARKED", firstBlock(x, 2, 1, 2, 5, 4, 1), 1);
        due("one that is not the LAST one is MARKED", firstBlock(x, 2, 1, 64, 4, 3, 1), 2);
    }

    @Sentence("or it is the LAST one, and none before it in the BLOCK that was ALLOWED had BITS less LEVEL MARKED")
    static void mode2NoneBefore() {
        // BITS less LEVEL are MARKED up to n = 26.
        CutBlocks x = zeros(100, 1);
        due("none that had was ALLOWED, by LEAST", firstBlock(x, 2, 27, 40, 9, 3, 1), 40);
        due("none that had was ALLOWED, by RECORD", firstBlock(x, 2, 24, 42, 9, 3, 14), 42);
        due("only the LAST one had", firstBlock(x, 2, 26, 26, 9, 3, 1), 26);
        due("the LAST one is the first one", firstBlock(x, 2, 40, 40, 9, 9, 1), 40);
        due("LEVEL 0", firstBlock(x, 2, 24, 40, 9, 0, 1), 40);
    }

    @Sentence("if it is the LAST one, and some had, the BLOCK ends with the latest of these instead")
    static void mode2TheLatest() {
        CutBlocks x = zeros(100, 1);
        due("the latest of three", firstBlock(x, 2, 24, 40, 9, 3, 1), 26);
        due("the latest of two", firstBlock(x, 2, 25, 40, 9, 3, 1), 26);
        due("the only one", firstBlock(x, 2, 26, 40, 9, 3, 1), 26);
        due("one bit more", firstBlock(x, 2, 24, 40, 9, 2, 1), 25);
        due("the latest that is a multiple", firstBlock(x, 2, 24, 40, 9, 3, 5), 25);
        due("not the LAST one itself", firstBlock(x, 2, 24, 26, 9, 3, 1), 25);
        due("far before it", firstBlock(x, 2, 24, 100, 9, 3, 1), 26);
    }

    @Sentence("(bytes behind that are of the next one)")
    static void mode2BytesBehind() {
        CutBlocks x = zeros(100, 1);
        due("the first block", firstBlock(x, 2, 24, 40, 9, 3, 1), 26);
        due("the next one's place", x.block(0, 1, 0), 26);
        due("the next one's bytes", x.block(0, 1, 1), 26);
        due("H is of the next one", x.hash(0, 26), 1);
        due("H with the first block's last byte", x.hash(0, 25), (1L << 26) - 1);
        due("and so on", x.block(0, 2, 0), 52);
        due("the rest has no LAST one", x.block(0, 3, 1), 22);
        due("blocks", x.blocks(0), 4);
    }

    @Sentence("And a BLOCK ends with the TEXT (MODE 2)")
    static void mode2EndsWithTheText() {
        CutBlocks x = zeros(40, 1);
        due("the text ends with the LAST one", firstBlock(x, 2, 24, 40, 9, 3, 1), 26);
        x.remove(0, 0, 1);
        due("the text ends ahead of it", firstBlock(x, 2, 24, 40, 9, 3, 1), 39);
        due("blocks", x.blocks(0), 1);
    }

    @Sentence("And a BLOCK ends with the TEXT")
    static void endsWithTheText() {
        for (int mode = 0; mode < 4; mode++) {
            CutBlocks x = zeros(1, NEVER);
            due("below LEAST", firstBlock(x, mode, 200, 600, 9, 0, 16), 1);
            x.fill(0, 198, 1, 1);
            due("one below LEAST", firstBlock(x, mode, 200, 600, 9, 0, 1), 199);
            due("blocks", x.blocks(0), 1);
            x.add(0, 0);
            due("just GREATEST", firstBlock(x, mode, 200, 200, 9, 0, 1), 200);
            due("no block behind it", x.blocks(0), 1);
            x.add(0, 0);
            due("blocks, with a byte more", x.blocks(0), 2);
            due("the byte's place", x.block(0, 1, 0), 200);
            due("no multiple of RECORD", firstBlock(x, mode, 1, 600, 9, 0, 16), 201);
            x.remove(0, 0, 201);
            due("no bytes", x.blocks(0), 0);
        }
    }

    private static CutBlocks ofOneBlock(int... bytes) {
        CutBlocks x = new CutBlocks();
        x.rule(0, 200, 600, 9, 0, 1);
        x.seed(seedFor(NEVER));
        give(x, 0, bytes);
        due("blocks", x.blocks(0), 1);
        return x;
    }

    @Sentence("manner 0: h, 2166136261 at first, becomes for each h xor the byte, times 16777619 (32 bits, wrapping)")
    static void mannerZero() {
        due("byte 0", ofOneBlock(0).digest(0, 0, 0), 0x050C5D1FL);
        due("byte 255", ofOneBlock(255).digest(0, 0, 0), (2166136261L ^ 255) * 16777619L % (1L << 32));
        due("above 2^31: 'a'", ofOneBlock('a').digest(0, 0, 0), 0xE40C292CL);
        due("'foobar'", ofOneBlock('f', 'o', 'o', 'b', 'a', 'r').digest(0, 0, 0), 0xBF9CF968L);
    }

    @Sentence("1: a, 1 at first, becomes a and the byte, modulo 65521, then b, 0 at first, b and a, modulo 65521")
    static void mannerOne() {
        due("byte 0", ofOneBlock(0).digest(0, 0, 1), 65536 + 1);
        due("byte 255", ofOneBlock(255).digest(0, 0, 1), 65536 * 256 + 256);
        CutBlocks x = zeros(400, NEVER);
        x.fill(0, 200, 1, 1);
        x.rule(0, 200, 600, 9, 0, 1);
        due("600 0s", x.digest(0, 0, 1), 65536 * 600 + 1);
    }

    /** Manner 1 of a block of n 255s and another byte. */
    private static long ofMany(int n, int last) {
        CutBlocks x = new CutBlocks();
        for (int i = 0; i < n; i++) {
            x.add(0, 255);
        }
        x.add(0, last);
        x.rule(0, 200, 600, 9, 0, 1);
        for (int seed = 0; x.blocks(0) != 1 && seed < 100; seed++) {
            x.seed(seed);
        }
        due("blocks", x.blocks(0), 1);
        return x.digest(0, 0, 1);
    }

    private static long summed(int n, int last) {
        long a = 1 + 255L * n + last;
        long b = 0;
        for (int i = 1; i <= n; i++) {
            b += 1 + 255L * i;
        }
        b += a;
        return 65536 * (b % 65521) + a % 65521;
    }

    @Sentence("modulo 65521: 65536 b and a")
    static void mannerOneWraps() {
        due("a is 65520", ofMany(256, 239), summed(256, 239));
        due("a is 0 again", ofMany(256, 240), summed(256, 240));
        due("a is 1 again", ofMany(256, 241), summed(256, 241));
        due("a is 0 again, as told", ofMany(256, 240) % 65536, 0);
        due("b wraps with 23 bytes", ofMany(22, 255), summed(22, 255));
        due("b is about to wrap", ofMany(21, 255), summed(21, 255));
        due("above 2^31", ofMany(300, 7), summed(300, 7));
    }

    @Sentence("The KEY is the lowest 8 bits of manner 0")
    static void theKey() {
        // Blocks of one byte have different KEYS, of every number: 256 of them, no pair.
        CutBlocks x = new CutBlocks();
        cutEvery(x, 1);
        for (int b = 0; b < 256; b++) {
            x.add(0, b);
        }
        due("keep", x.keep(0), 0);
        keptIs(x, 1, 256, 256, 256);
        due("no pairs", x.kept(4), 0);
        due("one of each KEY", x.kept(5), 1);
        // A block of two bytes has the KEY of one of them, whatever it is.
        cutEvery(x, 2);
        give(x, 1, 3, 4);
        x.keep(1);
        due("a pair", x.kept(4), 1);
        due("two of one KEY", x.kept(5), 2);
    }

    @Sentence("KEPT are SNAPSHOTS 0, 1, .., 9 (the least number that is not there is the next one)")
    static void snapshotNumbers() {
        CutBlocks x = new CutBlocks();
        x.add(0, 1);
        for (int s = 0; s < 10; s++) {
            due("keep", x.keep(0), s);
        }
        due("ten are there", x.keep(0), FULL);
        int[][] gone = {{0}, {9}, {4}, {8, 2}, {0, 9}, {9, 8, 7}, {0, 1, 2}};
        for (int[] numbers : gone) {
            int[] inOrder = numbers.clone();
            Arrays.sort(inOrder);
            for (int s : numbers) {
                due("drop", x.drop(s), 0);
            }
            for (int s : inOrder) {
                due("the least number", x.keep(0), s);
            }
            due("ten are there again", x.keep(0), FULL);
        }
        for (int s = 0; s < 10; s++) {
            due("drop", x.drop(s), s < 9 ? 0 : 1);
        }
        due("from 0 on again", x.keep(0), 0);
    }

    @Sentence("BLOCKS of like bytes are KEPT once, each has as many USES as rows have places for it")
    static void keptOnce() {
        CutBlocks x = new CutBlocks();
        cutEvery(x, 2);
        give(x, 0, 5, 5, 5, 5, 5, 5, 5);
        give(x, 1, 5, 5, 5);
        due("keep", x.keep(0), 0);
        keptIs(x, 1, 2, 3, 4);
        due("three places in one row", x.uses(0, 0), 3);
        due("the short one is another", x.uses(0, 3), 1);
        due("keep", x.keep(1), 1);
        keptIs(x, 2, 2, 3, 6);
        due("whoever has them", x.uses(0, 2), 4);
        due("keep", x.keep(0), 2);
        due("a row twice", x.uses(1, 0), 7);
        due("a row twice", x.uses(1, 1), 3);
        x.drop(0);
        due("a row's places go", x.uses(0, 0), 4);
        keptIs(x, 2, 2, 3, 6);
    }

    @Sentence("300 BLOCKS at most")
    static void keptBlocksAtMost() {
        CutBlocks x = new CutBlocks();
        cutEvery(x, 2);
        giveDifferentPairs(x, 0, 300);
        due("300 at once", x.keep(0), 0);
        keptIs(x, 1, 300, 600, 300);
        x.drop(0);
        x.add(0, 255);
        due("301 at once", x.keep(0), FULL);
        keptIs(x, 0, 0, 0, 0);
        x.remove(0, 598, 3);
        due("299", x.keep(0), 0);
        give(x, 1, 255, 1, 255, 2);
        due("two more", x.keep(1), FULL);
        keptIs(x, 1, 299, 598, 299);
        give(x, 1, 255, 1, 255, 1);
        due("one more, twice", x.keep(1), 1);
        keptIs(x, 2, 300, 600, 301);
        due("like ones need no room", x.keep(0), 2);
        keptIs(x, 3, 300, 600, 600);
        give(x, 1, 255);
        due("one more", x.keep(1), FULL);
        keptIs(x, 3, 300, 600, 600);
    }

    /** All texts have 1500 bytes, cut to 60 different blocks of 100 bytes. */
    private static CutBlocks of6000Bytes() {
        CutBlocks x = new CutBlocks();
        cutEvery(x, 100);
        for (int t = 0; t < 4; t++) {
            fillUp(x, t, 1500, 10 * t, 256);
        }
        return x;
    }

    @Sentence("and 6000 bytes at most")
    static void keptBytesAtMost() {
        CutBlocks x = of6000Bytes();
        x.remove(3, 1499, 1);
        for (int t = 0; t < 4; t++) {
            due("keep", x.keep(t), t);
        }
        keptIs(x, 4, 60, 5999, 60);
        give(x, 0, 255, 255);
        due("6001 bytes", x.keep(0), FULL);
        keptIs(x, 4, 60, 5999, 60);
        x.remove(0, 1, 1);
        due("6000 bytes", x.keep(0), 4);
        keptIs(x, 5, 61, 6000, 61);
        give(x, 0, 254);
        due("6001 bytes", x.keep(0), FULL);
        keptIs(x, 5, 61, 6000, 61);
        due("like ones need no room", x.keep(1), 5);
        give(x, 0);
        due("no bytes need no room", x.keep(0), 6);
        keptIs(x, 7, 61, 6000, 76);
    }

    public static void main(String[] args) throws Exception {
        runSentences(TermsTest.class);
    }
}
