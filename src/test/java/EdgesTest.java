/** The boundary cases of the promises, but for REFUSALS that change nothing: a test for each sentence. */
public final class EdgesTest extends Checks {

    @Sentence("Promise 1: TEXTS of no bytes, nothing KEPT")
    static void p01NewObject() {
        CutBlocks other = new CutBlocks();
        other.seed(9);
        other.rule(3, 1, 1, 1, 1, 1);
        for (int t = 0; t < 4; t++) {
            other.add(t, 5);
            other.keep(t);
        }
        CutBlocks x = new CutBlocks();
        for (int t = 0; t < 4; t++) {
            due("size", x.size(t), 0);
            due("blocks", x.blocks(t), 0);
        }
        for (int what = 0; what <= 5; what++) {
            due("kept(" + what + ")", x.kept(what), 0);
        }
        for (int s = 0; s <= 9; s++) {
            due("told", x.told(s, 0), BAD);
        }
        x.add(0, 0);
        due("the other one's seed is not this one's", x.hash(0, 0), table(1)[0]);
    }

    @Sentence("Promise 2: The SEED, any number: 1")
    static void p02SeedAnyNumber() {
        CutBlocks x = new CutBlocks();
        x.add(0, 0);
        int[] seeds = {0, 1, -1, LOW, HIGH, LOW + 1, HIGH - 1};
        for (int seed : seeds) {
            due("seed(" + seed + ")", x.seed(seed), 1);
            due("its first number", x.hash(0, 0), table(seed)[0]);
        }
    }

    @Sentence("Promise 2: it is of all TEXTS from now on")
    static void p02SeedOfAllTexts() {
        CutBlocks x = zeros(100, NEVER);
        for (int t = 1; t < 3; t++) {
            x.copy(t, 0);
        }
        for (int t = 0; t < 3; t++) {
            due("a block of text " + t, x.block(t, 0, 1), 64);
        }
        x.seed(seedFor(ALWAYS));
        x.copy(3, 0);
        for (int t = 0; t < 4; t++) {
            due("a block of text " + t + ", by the new seed", x.block(t, 0, 1), 4);
            due("its blocks", x.blocks(t), 25);
        }
    }

    @Sentence("Promise 2: (what is KEPT stays)")
    static void p02KeptStays() {
        CutBlocks x = zeros(10, NEVER);
        due("keep", x.keep(0), 0);
        x.seed(seedFor(ALWAYS));
        keptIs(x, 1, 1, 10, 1);
        due("its blocks are as they were", x.told(0, 0), 1);
        due("the text's are not", x.blocks(0), 3);
        due("none has the bytes of the text's", x.uses(0, 0), 0);
        due("restore", x.restore(0, 1), 10);
        x.seed(seedFor(NEVER));
        due("the first seed again", x.uses(0, 0), 1);
    }

    /** One number of a rule at its edges: the last that is taken, the first that is not. */
    private static void ruleEdge(String what, int[] good, int place, int taken, int refused) {
        CutBlocks x = new CutBlocks();
        int[] r = good.clone();
        r[place] = taken;
        due(what + " " + taken, x.rule(r[0], r[1], r[2], r[3], r[4], r[5]), 1);
        r[place] = refused;
        due(what + " " + refused, x.rule(r[0], r[1], r[2], r[3], r[4], r[5]), BAD);
        r[place] = refused < taken ? LOW : HIGH;
        due(what + " " + r[place], x.rule(r[0], r[1], r[2], r[3], r[4], r[5]), BAD);
    }

    @Sentence("Promise 3: BAD: MODE")
    static void p03Mode() {
        ruleEdge("MODE", new int[] {0, 4, 64, 3, 0, 1}, 0, 0, -1);
        ruleEdge("MODE", new int[] {0, 4, 64, 3, 0, 1}, 0, 3, 4);
    }

    @Sentence("Promise 3: LEAST is not 1 to 200")
    static void p03Least() {
        for (int mode = 0; mode < 4; mode++) {
            ruleEdge("LEAST", new int[] {mode, 0, 64, 3, 0, 1}, 1, 1, 0);
            ruleEdge("LEAST", new int[] {mode, 0, 600, 3, 0, 1}, 1, 200, 201);
            ruleEdge("LEAST", new int[] {mode, 0, 600, 3, 0, 16}, 1, 200, 201);
        }
    }

    @Sentence("Promise 3: GREATEST not LEAST to 600")
    static void p03Greatest() {
        for (int mode = 0; mode < 4; mode++) {
            ruleEdge("GREATEST", new int[] {mode, 1, 0, 3, 0, 1}, 2, 1, 0);
            ruleEdge("GREATEST", new int[] {mode, 4, 0, 3, 0, 1}, 2, 4, 3);
            ruleEdge("GREATEST", new int[] {mode, 200, 0, 3, 0, 1}, 2, 200, 199);
            ruleEdge("GREATEST", new int[] {mode, 4, 0, 3, 0, 1}, 2, 600, 601);
            ruleEdge("GREATEST", new int[] {mode, 4, 0, 3, 0, 16}, 2, 600, 601);
        }
    }

    @Sentence("Promise 3: BITS not 1 to 9")
    static void p03Bits() {
        for (int mode = 0; mode < 4; mode++) {
            ruleEdge("BITS", new int[] {mode, 4, 64, 0, 0, 1}, 3, 1, 0);
            ruleEdge("BITS", new int[] {mode, 4, 64, 0, 0, 1}, 3, 9, 10);
        }
    }

    @Sentence("Promise 3: LEVEL not 0 to BITS")
    static void p03Level() {
        for (int mode = 0; mode < 4; mode++) {
            ruleEdge("LEVEL", new int[] {mode, 4, 64, 3, 0, 1}, 4, 0, -1);
            for (int bits = 1; bits <= 9; bits++) {
                ruleEdge("LEVEL", new int[] {mode, 4, 64, bits, 0, 1}, 4, bits, bits + 1);
            }
        }
    }

    @Sentence("Promise 3: RECORD not 1 to 16")
    static void p03Record() {
        for (int mode = 0; mode < 4; mode++) {
            ruleEdge("RECORD", new int[] {mode, 4, 64, 3, 0, 0}, 5, 1, 0);
            ruleEdge("RECORD", new int[] {mode, 4, 64, 3, 0, 0}, 5, 16, 17);
            ruleEdge("RECORD", new int[] {mode, 17, 17, 3, 0, 0}, 5, 1, -17);
        }
    }

    @Sentence("Promise 3: or no multiple of it is from LEAST to GREATEST")
    static void p03Multiple() {
        for (int mode = 0; mode < 4; mode++) {
            ruleEdge("GREATEST below the multiple", new int[] {mode, 1, 0, 3, 0, 16}, 2, 16, 15);
            ruleEdge("LEAST above the multiple", new int[] {mode, 0, 31, 3, 0, 16}, 1, 16, 17);
            ruleEdge("GREATEST below the next multiple", new int[] {mode, 17, 0, 3, 0, 16}, 2, 32, 31);
            ruleEdge("LEAST above, up to 200", new int[] {mode, 0, 207, 3, 0, 16}, 1, 192, 193);
            ruleEdge("GREATEST, behind 200", new int[] {mode, 200, 0, 3, 0, 16}, 2, 208, 207);
            CutBlocks x = new CutBlocks();
            due("LEAST is GREATEST is RECORD", x.rule(mode, 16, 16, 3, 0, 16), 1);
            due("LEAST is GREATEST, no multiple", x.rule(mode, 17, 17, 3, 0, 16), BAD);
            due("LEAST is GREATEST, a multiple", x.rule(mode, 200, 200, 3, 0, 8), 1);
        }
    }

    @Sentence("Promise 3: RULES, of all TEXTS from now on: 1")
    static void p03OfAllTexts() {
        CutBlocks x = zeros(100, NEVER);
        for (int t = 1; t < 3; t++) {
            x.copy(t, 0);
            due("a block of text " + t, x.block(t, 0, 1), 64);
        }
        x.keep(1);
        due("rule", x.rule(0, 10, 10, 3, 0, 1), 1);
        x.copy(3, 0);
        for (int t = 0; t < 4; t++) {
            due("blocks of text " + t, x.blocks(t), 10);
        }
        due("what is KEPT stays", x.told(0, 0), 2);
        due("the same rule again", x.rule(0, 10, 10, 3, 0, 1), 1);
        due("blocks", x.blocks(0), 10);
    }

    @Sentence("Promise 4: A byte more at the end of a TEXT: how many it has. BAD, FULL.")
    static void p04Add() {
        CutBlocks x = full();
        x.blocks(1);
        due("to the empty one", x.add(0, 255), 1);
        due("to the full one", x.add(1, 255), FULL);
        x.remove(1, 1499, 1);
        due("the 1500th", x.add(1, 7), 1500);
        due("it is at the end", x.byteAt(1, 1499), 7);
        due("BAD ahead of FULL, b", x.add(1, 256), BAD);
        due("BAD ahead of FULL, b", x.add(1, -1), BAD);
        due("a block's bytes go along", x.block(0, 0, 1), 1);
        x.add(0, 1);
        due("and again", x.block(0, 0, 1), 2);
    }

    @Sentence("Promise 5: So many (1 to 400) bytes more")
    static void p05FillHowMany() {
        CutBlocks x = new CutBlocks();
        int[] wrong = {0, 401, -1, LOW, HIGH};
        for (int n : wrong) {
            due("n " + n, x.fill(0, n, 1, 256), BAD);
        }
        due("n 1", x.fill(0, 1, 1, 256), 1);
        due("n 400", x.fill(0, 400, 1, 256), 401);
    }

    @Sentence("Promise 5: x becomes x times 1103515245 and 12345 (32 bits, wrapping), x moved right by 16 (0s come in)")
    static void p05FillNumbers() {
        int[] seeds = {0, 1, -1, LOW, HIGH};
        for (int seed : seeds) {
            CutBlocks x = new CutBlocks();
            x.fill(0, 400, seed, 251);
            hasBytes("seed " + seed, x, 0, filled(400, seed, 251));
        }
    }

    @Sentence("Promise 5: modulo span (1 to 256)")
    static void p05FillSpan() {
        CutBlocks x = new CutBlocks();
        int[] wrong = {0, 257, -1, LOW, HIGH};
        for (int span : wrong) {
            due("span " + span, x.fill(0, 1, 1, span), BAD);
        }
        due("span 1", x.fill(0, 100, 1, 1), 100);
        hasBytes("span 1", x, 0, new int[100]);
        due("span 256", x.fill(1, 200, 1, 256), 200);
        hasBytes("span 256", x, 1, filled(200, 1, 256));
        due("span 2", x.fill(2, 50, 1, 2), 50);
        hasBytes("span 2", x, 2, filled(50, 1, 2));
        due("span 255", x.fill(3, 50, 1, 255), 50);
        hasBytes("span 255", x, 3, filled(50, 1, 255));
    }

    @Sentence("Promise 5: FULL: not all of them have room")
    static void p05FillFull() {
        CutBlocks x = full();
        due("none has", x.fill(1, 1, 1, 1), FULL);
        x.remove(1, 0, 400);
        due("just all have", x.fill(1, 400, 1, 1), 1500);
        x.remove(1, 0, 399);
        due("one has not", x.fill(1, 400, 1, 1), FULL);
        due("none came", x.size(1), 1101);
        due("just all have", x.fill(1, 399, 1, 1), 1500);
        due("BAD ahead of FULL, n", x.fill(1, 401, 1, 1), BAD);
        due("BAD ahead of FULL, n", x.fill(1, 0, 1, 1), BAD);
        due("BAD ahead of FULL, span", x.fill(1, 1, 1, 257), BAD);
        due("BAD ahead of FULL, span", x.fill(1, 1, 1, 0), BAD);
    }

    @Sentence("Promise 6: A byte comes ahead of byte at (or behind the last one): how many it has")
    static void p06Insert() {
        CutBlocks x = new CutBlocks();
        due("into the empty one", x.insert(0, 0, 5), 1);
        due("ahead of the first one", x.insert(0, 0, 4), 2);
        due("ahead of the last one", x.insert(0, 1, 6), 3);
        due("behind the last one", x.insert(0, 3, 7), 4);
        hasBytes("text 0", x, 0, 4, 6, 5, 7);
        due("farther behind", x.insert(0, 5, 1), BAD);
        due("behind none", x.insert(1, 1, 1), BAD);
        int[] wrong = {-1, LOW, HIGH};
        for (int at : wrong) {
            due("at " + at, x.insert(0, at, 1), BAD);
        }
        hasBytes("text 0", x, 0, 4, 6, 5, 7);
    }

    @Sentence("Promise 6: BAD, FULL")
    static void p06InsertFull() {
        CutBlocks x = full();
        int last = x.byteAt(1, 1499);
        due("ahead of the first one", x.insert(1, 0, 1), FULL);
        due("ahead of the last one", x.insert(1, 1499, 1), FULL);
        due("behind the last one", x.insert(1, 1500, 1), FULL);
        due("BAD ahead of FULL, at", x.insert(1, 1501, 1), BAD);
        due("BAD ahead of FULL, at", x.insert(1, -1, 1), BAD);
        due("BAD ahead of FULL, b", x.insert(1, 0, 256), BAD);
        due("BAD ahead of FULL, b", x.insert(1, 0, -1), BAD);
        x.remove(1, 0, 1);
        due("the 1500th, ahead of all", x.insert(1, 0, 9), 1500);
        due("it is the first one", x.byteAt(1, 0), 9);
        due("the last one is the same", x.byteAt(1, 1499), last);
    }

    @Sentence("Promise 7: n bytes from byte at on go: how many it has")
    static void p07Remove() {
        CutBlocks x = new CutBlocks();
        give(x, 0, 1, 2, 3, 4, 5, 6);
        due("the first one", x.remove(0, 0, 1), 5);
        hasBytes("behind", x, 0, 2, 3, 4, 5, 6);
        due("the last one", x.remove(0, 4, 1), 4);
        hasBytes("ahead", x, 0, 2, 3, 4, 5);
        due("two between", x.remove(0, 1, 2), 2);
        hasBytes("beside", x, 0, 2, 5);
        due("none", x.remove(0, 0, 0), 2);
        due("none behind the last one", x.remove(0, 2, 0), 2);
        hasBytes("the same", x, 0, 2, 5);
        due("all", x.remove(0, 0, 2), 0);
        due("none of none", x.remove(0, 0, 0), 0);
        x = full();
        due("all of 1500", x.remove(1, 0, 1500), 0);
        due("blocks", x.blocks(1), 0);
    }

    @Sentence("Promise 7: BAD: there are not so many, n is below 0")
    static void p07RemoveBad() {
        CutBlocks x = new CutBlocks();
        due("one of none", x.remove(0, 0, 1), BAD);
        give(x, 0, 1, 2, 3);
        due("four of three", x.remove(0, 0, 4), BAD);
        due("two of one", x.remove(0, 2, 2), BAD);
        due("one of none", x.remove(0, 3, 1), BAD);
        due("none, farther behind", x.remove(0, 4, 0), BAD);
        due("one from -1 on", x.remove(0, -1, 1), BAD);
        due("none from -1 on", x.remove(0, -1, 0), BAD);
        due("n is -1", x.remove(0, 1, -1), BAD);
        due("n is -1, behind all", x.remove(0, 4, -1), BAD);
        due("n is the least number", x.remove(0, 0, LOW), BAD);
        due("n is the greatest number", x.remove(0, 1, HIGH), BAD);
        due("at and n wrap to 0", x.remove(0, LOW, LOW), BAD);
        due("at and n wrap below 0", x.remove(0, HIGH, HIGH), BAD);
        due("at and n wrap to 1", x.remove(0, 2, HIGH), BAD);
        hasBytes("all are there", x, 0, 1, 2, 3);
        due("three of three", x.remove(0, 0, 3), 0);
    }

    @Sentence("Promise 8: A TEXT has the bytes of another one, or its own: how many")
    static void p08Copy() {
        CutBlocks x = full();
        due("the empty one's to the empty one", x.copy(0, 2), 0);
        due("the full one's to the empty one", x.copy(0, 1), 1500);
        alikeIs(x, 0, 1, x.blocks(1), 1500, x.blocks(1), x.blocks(1));
        due("its own, full", x.copy(1, 1), 1500);
        alikeIs(x, 0, 1, x.blocks(1), 1500, x.blocks(1), x.blocks(1));
        due("the empty one's to the full one", x.copy(1, 2), 0);
        due("blocks", x.blocks(1), 0);
        due("byte 0", x.byteAt(1, 0), BAD);
        due("its own, empty", x.copy(1, 1), 0);
        give(x, 2, 1, 2, 3);
        due("a short one's to the full one", x.copy(0, 2), 3);
        x.add(2, 4);
        x.insert(2, 0, 0);
        hasBytes("the copy stands alone", x, 0, 1, 2, 3);
        x.remove(0, 0, 3);
        hasBytes("the first one too", x, 2, 0, 1, 2, 3, 4);
    }

    @Sentence("Promise 9: How many bytes it has. BAD.")
    static void p09Size() {
        CutBlocks x = full();
        due("none", x.size(0), 0);
        due("all", x.size(1), 1500);
        x.add(1, 1);
        due("a refused one is not counted", x.size(1), 1500);
        x.remove(1, 0, 1499);
        due("one", x.size(1), 1);
        for (int t : WRONG_TEXTS) {
            due("text " + t, x.size(t), BAD);
        }
    }

    @Sentence("Promise 10: Byte i. BAD.")
    static void p10ByteAt() {
        CutBlocks x = full();
        int[] bytes = filled(300, 4, 256);
        due("the first one", x.byteAt(1, 0), filled(1, 1, 256)[0]);
        due("the last one", x.byteAt(1, 1499), bytes[299]);
        int[] wrong = {-1, 1500, LOW, HIGH};
        for (int i : wrong) {
            due("byte " + i, x.byteAt(1, i), BAD);
        }
        x.remove(1, 0, 1);
        due("behind the last one", x.byteAt(1, 1499), BAD);
        due("the last one", x.byteAt(1, 1498), bytes[299]);
        due("of none", x.byteAt(0, 0), BAD);
        give(x, 0, 0, 255);
        due("0 is a byte", x.byteAt(0, 0), 0);
        due("255 is a byte", x.byteAt(0, 1), 255);
    }

    @Sentence("Promise 11: How many BLOCKS it has. BAD.")
    static void p11Blocks() {
        CutBlocks x = full();
        due("of no bytes", x.blocks(0), 0);
        cutEvery(x, 1);
        due("the most", x.blocks(1), 1500);
        due("rule", x.rule(0, 200, 600, 9, 0, 16), 1);
        give(x, 0, 1);
        due("the least of a byte", x.blocks(0), 1);
        for (int t : WRONG_TEXTS) {
            due("text " + t, x.blocks(t), BAD);
        }
    }

    @Sentence("Promise 11: How many BLOCKS it has (after each call that changes it)")
    static void p11BlocksAfterAChange() {
        CutBlocks x = new CutBlocks();
        cutEvery(x, 2);
        give(x, 0, 1, 1, 2, 2);
        due("blocks", x.blocks(0), 2);
        x.add(0, 3);
        due("add", x.blocks(0), 3);
        x.insert(0, 0, 3);
        due("insert", x.block(0, 2, 1), 2);
        x.insert(0, 0, 3);
        due("insert", x.blocks(0), 4);
        x.remove(0, 0, 4);
        due("remove", x.blocks(0), 2);
        x.fill(0, 10, 1, 1);
        due("fill", x.blocks(0), 7);
        due("of text 1", x.blocks(1), 0);
        x.copy(1, 0);
        due("copy", x.blocks(1), 7);
        x.keep(1);
        due("keep", x.blocks(1), 7);
        due("of text 2", x.blocks(2), 0);
        x.restore(0, 2);
        due("restore", x.blocks(2), 7);
        x.drop(0);
        due("drop", x.blocks(2), 7);
    }

    @Sentence("Promise 12: Of BLOCK k: what = 0 its first byte's place, 1 how many bytes it has. BAD.")
    static void p12Block() {
        CutBlocks x = full();
        due("rule", x.rule(0, 200, 200, 9, 0, 1), 1);
        due("the first one's place", x.block(1, 0, 0), 0);
        due("the first one's bytes", x.block(1, 0, 1), 200);
        due("the last one's place", x.block(1, 7, 0), 1400);
        due("the last one's bytes", x.block(1, 7, 1), 100);
        int[] wrong = {-1, 8, LOW, HIGH};
        for (int k : wrong) {
            due("block " + k, x.block(1, k, 0), BAD);
            due("block " + k, x.block(1, k, 1), BAD);
        }
        int[] wrongWhat = {-1, 2, LOW, HIGH};
        for (int what : wrongWhat) {
            due("what " + what, x.block(1, 0, what), BAD);
        }
        due("of no bytes", x.block(0, 0, 0), BAD);
        cutEvery(x, 1);
        due("the 1500th one's place", x.block(1, 1499, 0), 1499);
        due("the 1500th one's bytes", x.block(1, 1499, 1), 1);
        due("behind it", x.block(1, 1500, 0), BAD);
    }

    @Sentence("Promise 13: Its DIGEST, by a manner. NOTHING.")
    static void p13Digest() {
        CutBlocks x = new CutBlocks();
        cutEvery(x, 2);
        due("of no bytes", x.digest(0, 0, 0), NOTHING);
        give(x, 0, 1, 2, 1, 2, 3);
        due("like blocks, manner 0", x.digest(0, 1, 0) - x.digest(0, 0, 0), 0);
        due("like blocks, manner 1", x.digest(0, 1, 1), 65536 * 6 + 4);
        due("the last one", x.digest(0, 2, 1), 65536 * 4 + 4);
        int[] wrong = {-1, 3, LOW, HIGH};
        for (int k : wrong) {
            due("block " + k, x.digest(0, k, 0), NOTHING);
            due("block " + k, x.digest(0, k, 1), NOTHING);
        }
        int[] wrongManners = {-1, 2, LOW, HIGH};
        for (int manner : wrongManners) {
            due("manner " + manner, x.digest(0, 0, manner), NOTHING);
        }
        for (int t : WRONG_TEXTS) {
            due("text " + t, x.digest(t, 0, 0), NOTHING);
        }
    }

    @Sentence("Promise 14: H with byte i, in its BLOCK (0 .. 4294967295). NOTHING.")
    static void p14Hash() {
        CutBlocks x = zeros(100, ALWAYS);
        cutEvery(x, 40);
        due("the least", x.hash(0, 39), 0);
        x.seed(seedFor(1));
        due("the greatest", x.hash(0, 39), 4294967295L);
        due("with the block's first byte", x.hash(0, 40), 1);
        due("above 2^31", x.hash(0, 31), 4294967295L);
        due("below 2^31", x.hash(0, 30), 2147483647L);
        due("with the text's last byte", x.hash(0, 99), (1 << 20) - 1);
        int[] wrong = {-1, 100, LOW, HIGH};
        for (int i : wrong) {
            due("byte " + i, x.hash(0, i), NOTHING);
        }
        due("of no bytes", x.hash(1, 0), NOTHING);
        for (int t : WRONG_TEXTS) {
            due("text " + t, x.hash(t, 0), NOTHING);
        }
        x = full();
        cutEvery(x, 1);
        due("byte 1499", x.hash(1, 1499), table(1)[x.byteAt(1, 1499)]);
        due("byte 1500", x.hash(1, 1500), NOTHING);
    }

    @Sentence("Promise 15: A TEXT and another one, or itself")
    static void p15AlikeItself() {
        CutBlocks x = full();
        cutEvery(x, 1);
        alikeIs(x, 1, 1, 1500, 1500, 1500, 1500);
        alikeIs(x, 0, 0, 0, 0, 0, 0);
        alikeIs(x, 0, 1, 0, 0, 0, 0);
        alikeIs(x, 1, 0, 0, 0, 0, 0);
        x.copy(3, 1);
        alikeIs(x, 3, 1, 1500, 1500, 1500, 1500);
    }

    @Sentence("Promise 15: what = 0 how many BLOCKS of it have the bytes of some BLOCK of the other one")
    static void p15AlikeBlocks() {
        CutBlocks x = new CutBlocks();
        cutEvery(x, 2);
        give(x, 0, 1, 1, 2, 2, 1, 1, 1, 1, 3);
        give(x, 1, 3, 1, 1, 1, 1, 3, 1, 1);
        due("each that has, though the other one has it once", x.alike(0, 1, 0), 3);
        due("the other way", x.alike(1, 0, 0), 2);
        give(x, 1, 3);
        due("a short one", x.alike(0, 1, 0), 1);
        give(x, 1, 1);
        due("the beginning of one is not it", x.alike(1, 0, 0), 0);
        due("nor the other way", x.alike(0, 1, 0), 0);
    }

    @Sentence("Promise 15: 1 how many bytes these have together")
    static void p15AlikeBytes() {
        CutBlocks x = new CutBlocks();
        cutEvery(x, 2);
        give(x, 0, 1, 1, 2, 2, 1, 1, 1, 1, 3);
        give(x, 1, 1, 1, 3);
        due("each that has", x.alike(0, 1, 1), 7);
        due("the other way", x.alike(1, 0, 1), 3);
        give(x, 1, 9);
        due("none has", x.alike(0, 1, 1), 0);
    }

    @Sentence("Promise 15: 2 how many of its first BLOCKS, one by one, till two do not or one has no more")
    static void p15AlikeFirst() {
        CutBlocks x = new CutBlocks();
        cutEvery(x, 2);
        give(x, 0, 1, 1, 2, 2, 3, 3);
        give(x, 1, 1, 1, 2, 2, 4, 4);
        due("till two do not", x.alike(0, 1, 2), 2);
        give(x, 1, 1, 1, 2, 2);
        due("till the other one has no more", x.alike(0, 1, 2), 2);
        due("till it has no more", x.alike(1, 0, 2), 2);
        give(x, 1, 9, 9, 2, 2, 3, 3);
        due("not the first two", x.alike(0, 1, 2), 0);
        give(x, 1, 1, 1, 9, 9, 3, 3);
        due("not those behind a pair that does not", x.alike(0, 1, 2), 1);
        give(x, 1, 1, 1, 2, 2, 3);
        due("a short one is another", x.alike(0, 1, 2), 2);
    }

    @Sentence("Promise 15: 3 how many of its last BLOCKS, one by one, from there on, till two do not or one has no more")
    static void p15AlikeLast() {
        CutBlocks x = new CutBlocks();
        cutEvery(x, 2);
        give(x, 0, 1, 1, 2, 2, 3, 3);
        give(x, 1, 4, 4, 2, 2, 3, 3);
        due("till two do not", x.alike(0, 1, 3), 2);
        give(x, 1, 2, 2, 3, 3);
        due("till the other one has no more", x.alike(0, 1, 3), 2);
        due("till it has no more", x.alike(1, 0, 3), 2);
        give(x, 1, 1, 1, 2, 2, 9, 9);
        due("not the last two", x.alike(0, 1, 3), 0);
        give(x, 1, 1, 1, 9, 9, 3, 3);
        due("not those ahead of a pair that does not", x.alike(0, 1, 3), 1);
        give(x, 1, 0, 0, 1, 1, 2, 2, 3, 3);
        due("all of it", x.alike(0, 1, 3), 3);
        due("all of the other one", x.alike(1, 0, 3), 3);
    }

    @Sentence("Promise 15: of the other one (as it is now, not as it was)")
    static void p15AlikeAfterAChange() {
        CutBlocks x = new CutBlocks();
        cutEvery(x, 2);
        give(x, 0, 1, 1, 2, 2, 3, 3);
        x.copy(1, 0);
        alikeIs(x, 0, 1, 3, 6, 3, 3);
        x.remove(1, 4, 2);
        alikeIs(x, 0, 1, 2, 4, 2, 0);
        x.remove(1, 0, 2);
        alikeIs(x, 0, 1, 1, 2, 0, 0);
        x.remove(1, 0, 2);
        alikeIs(x, 0, 1, 0, 0, 0, 0);
        x.copy(1, 0);
        cutEvery(x, 6);
        alikeIs(x, 0, 1, 1, 6, 1, 1);
    }

    @Sentence("Promise 15: have the bytes of (not their DIGEST alone)")
    static void p15AlikeOfOneDigest() {
        CutBlocks x = new CutBlocks();
        cutEvery(x, 20);
        give(x, 0, 'd', 'e', 'c', 'l', 'i', 'n', 'a', 't', 'e');
        give(x, 1, 'm', 'a', 'c', 'a', 'l', 'l', 'u', 'm', 's');
        due("one DIGEST", x.digest(0, 0, 0) - x.digest(1, 0, 0), 0);
        alikeIs(x, 0, 1, 0, 0, 0, 0);
        x.keep(0);
        due("uses", x.uses(1, 0), 0);
        x.keep(1);
        keptIs(x, 2, 2, 18, 2);
        // These two are not of like length either.
        give(x, 0, 'c', 'o', 's', 't', 'a', 'r', 'r', 'i', 'n', 'g');
        give(x, 1, 'l', 'i', 'q', 'u', 'i', 'd');
        due("one DIGEST", x.digest(0, 0, 0) - x.digest(1, 0, 0), 0);
        alikeIs(x, 0, 1, 0, 0, 0, 0);
        alikeIs(x, 1, 0, 0, 0, 0, 0);
    }

    @Sentence("Promise 15: BAD")
    static void p15AlikeBad() {
        CutBlocks x = new CutBlocks();
        int[] wrong = {-1, 4, LOW, HIGH};
        for (int what : wrong) {
            due("what " + what, x.alike(0, 1, what), BAD);
            due("what " + what + ", itself", x.alike(2, 2, what), BAD);
        }
        for (int what = 0; what < 4; what++) {
            for (int t : WRONG_TEXTS) {
                due("text " + t, x.alike(t, 0, what), BAD);
                due("other " + t, x.alike(0, t, what), BAD);
                due("both " + t, x.alike(t, t, what), BAD);
            }
        }
    }

    @Sentence("Promise 16: A SNAPSHOT more, of the BLOCKS of a TEXT: its number")
    static void p16Keep() {
        CutBlocks x = full();
        due("of no bytes", x.keep(0), 0);
        keptIs(x, 1, 0, 0, 0);
        due("rule", x.rule(0, 10, 10, 9, 0, 1), 1);
        due("of 1500 bytes", x.keep(1), 1);
        keptIs(x, 2, 150, 1500, 150);
        x.remove(1, 0, 1500);
        due("a change of the text changes nothing", x.restore(1, 2), 1500);
        due("its blocks", x.told(1, 0), 150);
        cutEvery(x, 1);
        fillUp(x, 3, 1500, 1, 1);
        due("1500 places for one block", x.keep(3), 2);
        keptIs(x, 3, 151, 1501, 1650);
        due("restore", x.restore(2, 0), 1500);
        due("uses", x.uses(0, 1499), 1500);
    }

    @Sentence("Promise 16: FULL: ten are there")
    static void p16TenAreThere() {
        CutBlocks x = new CutBlocks();
        x.add(1, 1);
        for (int s = 0; s < 10; s++) {
            due("keep", x.keep(s % 2), s);
        }
        due("of no bytes", x.keep(0), FULL);
        due("of like blocks", x.keep(1), FULL);
        for (int t : WRONG_TEXTS) {
            due("BAD ahead of FULL", x.keep(t), BAD);
        }
        keptIs(x, 10, 1, 1, 5);
        due("drop", x.drop(9), 0);
        due("the tenth", x.keep(0), 9);
        due("the eleventh", x.keep(0), FULL);
    }

    @Sentence("Promise 16: or more BLOCKS would be KEPT than may be")
    static void p16TooManyBlocks() {
        CutBlocks x = new CutBlocks();
        cutEvery(x, 2);
        giveDifferentPairs(x, 0, 300);
        x.copy(1, 0);
        x.remove(1, 0, 300);
        x.remove(0, 300, 300);
        due("150 blocks", x.keep(0), 0);
        x.add(1, 255);
        due("151 more", x.keep(1), FULL);
        keptIs(x, 1, 150, 300, 150);
        for (int k = 0; k < 150; k += 10) {
            due("none of them is KEPT", x.uses(1, k), 0);
        }
        x.remove(1, 300, 1);
        due("150 more", x.keep(1), 1);
        keptIs(x, 2, 300, 600, 300);
        due("those of a SNAPSHOT that goes make room", x.drop(0), 300);
        x.add(1, 255);
        due("one more", x.keep(1), 0);
        keptIs(x, 2, 151, 301, 301);
        due("restore", x.restore(0, 2), 301);
        alikeIs(x, 2, 1, 151, 301, 151, 151);
    }

    @Sentence("Promise 16: or more bytes would be KEPT than may be")
    static void p16TooManyBytes() {
        CutBlocks x = new CutBlocks();
        due("rule", x.rule(0, 150, 150, 9, 0, 1), 1);
        for (int t = 0; t < 4; t++) {
            fillUp(x, t, 1500, 100 + 10 * t, 256);
            due("keep", x.keep(t), t);
        }
        keptIs(x, 4, 40, 6000, 40);
        x.remove(0, 0, 1);
        due("other blocks", x.keep(0), FULL);
        keptIs(x, 4, 40, 6000, 40);
        due("those of a SNAPSHOT that goes make room", x.drop(0), 1500);
        due("keep", x.keep(0), 0);
        keptIs(x, 4, 40, 5999, 40);
        due("none", x.drop(1), 1500);
        give(x, 1, 255, 254);
        due("keep", x.keep(1), 1);
        keptIs(x, 4, 31, 4501, 31);
        fillUp(x, 1, 1498, 300, 256);
        due("6001 bytes, the last block is not the one that is too much", x.keep(1), FULL);
        keptIs(x, 4, 31, 4501, 31);
        x.remove(1, 1499, 1);
        due("6000 bytes", x.keep(1), 4);
        keptIs(x, 5, 41, 6000, 41);
    }

    @Sentence("Promise 17: A SNAPSHOT goes, and BLOCKS without USES: how many bytes these had. BAD.")
    static void p17Drop() {
        CutBlocks x = new CutBlocks();
        cutEvery(x, 2);
        give(x, 0, 1, 1, 2, 2, 1, 1, 3);
        give(x, 1, 2, 2);
        due("keep", x.keep(0), 0);
        due("keep", x.keep(2), 1);
        due("keep", x.keep(1), 2);
        due("keep", x.keep(0), 3);
        int[] wrong = {-1, 4, 9, 10, LOW, HIGH};
        for (int s : wrong) {
            due("drop " + s, x.drop(s), BAD);
        }
        keptIs(x, 4, 3, 5, 9);
        due("one of no bytes", x.drop(1), 0);
        due("it went", x.drop(1), BAD);
        due("all its blocks have USES", x.drop(0), 0);
        keptIs(x, 2, 3, 5, 5);
        due("all but one have none", x.drop(3), 3);
        keptIs(x, 1, 1, 2, 1);
        due("the block that stays", x.uses(0, 1), 1);
        due("one that went", x.uses(0, 0), 0);
        due("the last one", x.drop(2), 2);
        keptIs(x, 0, 0, 0, 0);
        for (int s = 0; s < 10; s++) {
            due("drop of none", x.drop(s), BAD);
        }
    }

    @Sentence("Promise 17: A SNAPSHOT goes (and no other one is another one by that)")
    static void p17DropLeavesTheOthers() {
        for (int first = 0; first < 3; first++) {
            CutBlocks x = new CutBlocks();
            cutEvery(x, 2);
            give(x, 0, 1, 1, 2, 2);
            give(x, 1, 3, 3, 2, 2, 4, 4, 3, 3);
            give(x, 2, 5, 5, 4, 4, 6);
            x.keep(0);
            x.keep(1);
            x.drop(0);
            // Snapshot 0 has its blocks behind those of snapshot 1 now.
            due("the least number", x.keep(2), 0);
            due("keep", x.keep(0), 2);
            due("drop", x.drop(first) >= 0 ? 1 : 0, 1);
            for (int s = 0; s < 3; s++) {
                int text = s == 0 ? 2 : s == 1 ? 1 : 0;
                int bytes = s == first ? BAD : x.size(text);
                due("restore " + s, x.restore(s, 3), bytes);
                due("its bytes", s == first ? bytes : x.alike(3, text, 1), bytes);
                due("in their order", s == first ? 0 : x.blocks(3) - x.alike(3, text, 2), 0);
            }
        }
    }

    @Sentence("Promise 17: how many bytes these had (all that may be KEPT)")
    static void p17DropAll() {
        CutBlocks x = new CutBlocks();
        cutEvery(x, 2);
        giveDifferentPairs(x, 0, 300);
        for (int s = 0; s < 10; s++) {
            due("keep", x.keep(0), s);
        }
        keptIs(x, 10, 300, 600, 3000);
        for (int s = 0; s < 9; s++) {
            due("drop", x.drop(s), 0);
        }
        due("the last one that has them", x.drop(9), 600);
        keptIs(x, 0, 0, 0, 0);
        due("keep", x.keep(0), 0);
        keptIs(x, 1, 300, 600, 300);
    }

    @Sentence("Promise 18: A TEXT has the bytes of a SNAPSHOT: how many. BAD.")
    static void p18Restore() {
        CutBlocks x = full();
        due("rule", x.rule(0, 100, 100, 9, 0, 1), 1);
        due("keep", x.keep(1), 0);
        due("keep", x.keep(0), 1);
        due("1500 bytes to the empty one", x.restore(0, 0), 1500);
        due("1500 bytes to the full one", x.restore(0, 1), 1500);
        alikeIs(x, 0, 1, 15, 1500, 15, 15);
        due("none to the full one", x.restore(1, 1), 0);
        due("blocks", x.blocks(1), 0);
        due("byte 0", x.byteAt(1, 0), BAD);
        due("none to the empty one", x.restore(1, 1), 0);
        int[] wrong = {-1, 2, 9, 10, LOW, HIGH};
        for (int s : wrong) {
            due("snapshot " + s, x.restore(s, 0), BAD);
        }
        for (int t : WRONG_TEXTS) {
            due("text " + t, x.restore(0, t), BAD);
            due("both", x.restore(2, t), BAD);
        }
        due("the text is whole", x.size(0), 1500);
        keptIs(x, 2, 15, 1500, 15);
        x.drop(0);
        due("one that went", x.restore(0, 2), BAD);
        due("what it gave stays", x.size(0), 1500);
    }

    @Sentence("Promise 18: the bytes of a SNAPSHOT (by other RULES than its own)")
    static void p18RestoreByOtherRules() {
        CutBlocks x = new CutBlocks();
        cutEvery(x, 2);
        give(x, 0, 4, 4, 5, 5, 4, 4, 6);
        x.keep(0);
        x.remove(0, 0, 7);
        x.seed(12);
        cutEvery(x, 3);
        due("restore", x.restore(0, 0), 7);
        hasBytes("in their order", x, 0, 4, 4, 5, 5, 4, 4, 6);
        due("blocks, by the rules of now", x.blocks(0), 3);
        due("its own are as they were", x.told(0, 0), 4);
    }

    @Sentence("Promise 19: Of a SNAPSHOT: what = 0 how many BLOCKS, 1 how many bytes. BAD.")
    static void p19Told() {
        CutBlocks x = full();
        cutEvery(x, 1);
        x.fill(2, 400, 1, 1);
        due("keep", x.keep(0), 0);
        due("keep", x.keep(2), 1);
        due("no blocks", x.told(0, 0), 0);
        due("no bytes", x.told(0, 1), 0);
        due("blocks, each place of like ones", x.told(1, 0), 400);
        due("bytes, each place of like ones", x.told(1, 1), 400);
        due("keep", x.keep(1), 2);
        due("the most blocks", x.told(2, 0), 1500);
        due("the most bytes", x.told(2, 1), 1500);
        int[] wrong = {-1, 2, LOW, HIGH};
        for (int what : wrong) {
            due("what " + what, x.told(0, what), BAD);
        }
        int[] wrongSnapshots = {-1, 3, 9, 10, LOW, HIGH};
        for (int s : wrongSnapshots) {
            due("snapshot " + s, x.told(s, 0), BAD);
            due("snapshot " + s, x.told(s, 1), BAD);
        }
        x.drop(1);
        due("one that went", x.told(1, 0), BAD);
        due("one behind it", x.told(2, 0), 1500);
    }

    @Sentence("Promise 20: USES of the KEPT BLOCK that has the bytes of BLOCK k of a TEXT; 0 none has. BAD.")
    static void p20Uses() {
        CutBlocks x = new CutBlocks();
        cutEvery(x, 2);
        give(x, 0, 1, 1, 2, 2, 1, 1, 1);
        for (int k = 0; k < 4; k++) {
            due("nothing is KEPT", x.uses(0, k), 0);
        }
        x.keep(0);
        due("two places", x.uses(0, 0), 2);
        due("one place", x.uses(0, 1), 1);
        due("the last one", x.uses(0, 3), 1);
        int[] wrong = {-1, 4, LOW, HIGH};
        for (int k : wrong) {
            due("block " + k, x.uses(0, k), BAD);
        }
        due("of no bytes", x.uses(1, 0), BAD);
        for (int t : WRONG_TEXTS) {
            due("text " + t, x.uses(t, 0), BAD);
        }
        give(x, 1, 1, 2, 2, 1);
        due("none has these", x.uses(1, 0), 0);
        due("nor these", x.uses(1, 1), 0);
        cutEvery(x, 1);
        due("another text's, by other rules", x.uses(1, 0), 1);
        due("none has 2", x.uses(1, 1), 0);
        x.drop(0);
        due("none has any more", x.uses(1, 0), 0);
    }

    @Sentence("Promise 20: USES (as many as there may be)")
    static void p20MostUses() {
        CutBlocks x = new CutBlocks();
        cutEvery(x, 1);
        fillUp(x, 0, 1500, 1, 1);
        for (int s = 0; s < 10; s++) {
            due("keep", x.keep(0), s);
        }
        due("ten times 1500", x.uses(0, 0), 15000);
        keptIs(x, 10, 1, 1, 15000);
        due("drop", x.drop(5), 0);
        due("nine times 1500", x.uses(0, 1499), 13500);
    }

    @Sentence("Promise 21: KEPT: what = 0 SNAPSHOTS, 1 BLOCKS, 2 bytes, 3 USES. BAD.")
    static void p21Kept() {
        CutBlocks x = new CutBlocks();
        keptIs(x, 0, 0, 0, 0);
        int[] wrong = {-1, 6, LOW, HIGH};
        for (int what : wrong) {
            due("what " + what, x.kept(what), BAD);
        }
        due("keep", x.keep(0), 0);
        keptIs(x, 1, 0, 0, 0);
        cutEvery(x, 2);
        give(x, 0, 8, 8, 8, 8, 8);
        due("keep", x.keep(0), 1);
        keptIs(x, 2, 2, 3, 3);
        for (int what : wrong) {
            due("what " + what, x.kept(what), BAD);
        }
    }

    private static int key(int... bytes) {
        int h = 0x811C9DC5;
        for (int b : bytes) {
            h = (h ^ b) * 16777619;
        }
        return h & 255;
    }

    /** A pair of bytes from this one on, the first of which is first, with this KEY. */
    private static int[] pairOfKey(int first, int key) {
        for (int second = 0; second < 256; second++) {
            if (key(first, second) == key) {
                return new int[] {first, second};
            }
        }
        throw new IllegalStateException("no pair begins with " + first);
    }

    @Sentence("Promise 21: 4 pairs of BLOCKS with one KEY, 5 the most BLOCKS with one KEY")
    static void p21Keys() {
        CutBlocks x = new CutBlocks();
        cutEvery(x, 2);
        due("no pairs of none", x.kept(4), 0);
        due("the most of none", x.kept(5), 0);
        int[] pairs = {0, 1, 3, 6};
        for (int n = 1; n <= 4; n++) {
            give(x, 0, pairOfKey(n, 0));
            due("keep", x.keep(0), n - 1);
            due("pairs of " + n, x.kept(4), pairs[n - 1]);
            due("the most of " + n, x.kept(5), n);
        }
        for (int n = 1; n <= 3; n++) {
            give(x, 0, pairOfKey(n, 255));
            due("keep", x.keep(0), n + 3);
        }
        due("pairs of 4 and of 3", x.kept(4), 9);
        due("the most", x.kept(5), 4);
        due("keep a like one", x.keep(0), 7);
        due("like ones are no pair", x.kept(4), 9);
        for (int s = 0; s < 4; s++) {
            due("drop", x.drop(s), 2);
        }
        due("pairs of 3", x.kept(4), 3);
        due("the most of 3", x.kept(5), 3);
    }

    public static void main(String[] args) throws Exception {
        runSentences(EdgesTest.class);
    }
}
