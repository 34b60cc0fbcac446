import java.util.ArrayList;
import java.util.Arrays;
import java.util.LinkedHashMap;
import java.util.List;
import java.util.Map;

/**
 * "REFUSALS change nothing and answer, of several the first one here": each refused call is made on
 * an object that is new but for what built it, and everything that can be asked of the object behind
 * it is compared with what another one answers that was built alike, without the call.
 */
public final class RefusalsTest extends Checks {
    private interface Builder {
        CutBlocks built();
    }

    private interface Call {
        long of(CutBlocks x);
    }

    private static final Map<String, Call> BAD_CALLS = new LinkedHashMap<>();

    static {
        for (int t : WRONG_TEXTS) {
            badTexts(t);
        }
        badRules();
        badBytes();
        badBlocks();
        badSnapshots();
    }

    private static void bad(String name, Call call) {
        BAD_CALLS.put(name, call);
    }

    private static void badTexts(int t) {
        bad("add to text " + t, x -> x.add(t, 1));
        bad("fill of text " + t, x -> x.fill(t, 1, 1, 1));
        bad("insert to text " + t, x -> x.insert(t, 0, 1));
        bad("remove from text " + t, x -> x.remove(t, 0, 0));
        bad("copy to text " + t, x -> x.copy(t, 0));
        bad("copy from text " + t, x -> x.copy(0, t));
        bad("copy of text " + t + " to itself", x -> x.copy(t, t));
        bad("size of text " + t, x -> x.size(t));
        bad("byteAt of text " + t, x -> x.byteAt(t, 0));
        bad("blocks of text " + t, x -> x.blocks(t));
        bad("block of text " + t, x -> x.block(t, 0, 0));
        bad("digest of text " + t, x -> x.digest(t, 0, 0));
        bad("hash of text " + t, x -> x.hash(t, 0));
        bad("alike of text " + t, x -> x.alike(t, 0, 0));
        bad("alike of other " + t, x -> x.alike(0, t, 0));
        bad("keep of text " + t, x -> x.keep(t));
        bad("restore to text " + t, x -> x.restore(0, t));
        bad("uses of text " + t, x -> x.uses(t, 0));
    }

    private static void badRules() {
        int[][] rules = {
            {-1, 1, 5, 1, 1, 1}, {4, 1, 5, 1, 1, 1}, {LOW, 1, 5, 1, 1, 1}, {HIGH, 1, 5, 1, 1, 1},
            {0, 0, 5, 1, 1, 1}, {1, 201, 300, 1, 1, 1}, {2, LOW, 5, 1, 1, 1}, {3, HIGH, HIGH, 1, 1, 1},
            {0, 3, 2, 1, 1, 1}, {1, 3, 601, 1, 1, 1}, {2, 3, LOW, 1, 1, 1}, {3, 3, HIGH, 1, 1, 1},
            {0, 1, 5, 0, 0, 1}, {1, 1, 5, 10, 1, 1}, {2, 1, 5, LOW, 0, 1}, {3, 1, 5, HIGH, 1, 1},
            {0, 1, 5, 1, -1, 1}, {1, 1, 5, 1, 2, 1}, {2, 1, 5, 9, 10, 1}, {3, 1, 5, 1, HIGH, 1},
            {0, 1, 5, 1, 1, 0}, {1, 1, 50, 1, 1, 17}, {2, 1, 5, 1, 1, LOW}, {3, 1, 5, 1, 1, HIGH},
            {0, 1, 15, 1, 1, 16}, {1, 5, 7, 1, 1, 4}, {2, 17, 31, 1, 1, 16}, {3, 3, 3, 1, 1, 2},
        };
        for (int[] r : rules) {
            bad("rule" + Arrays.toString(r), x -> x.rule(r[0], r[1], r[2], r[3], r[4], r[5]));
        }
    }

    private static void badBytes() {
        int[] wrong = {-1, 256, LOW, HIGH};
        for (int b : wrong) {
            bad("add of byte " + b, x -> x.add(0, b));
            bad("insert of byte " + b, x -> x.insert(0, 0, b));
        }
        int[] wrongFills = {0, 401, -1, LOW, HIGH};
        for (int n : wrongFills) {
            bad("fill of " + n, x -> x.fill(0, n, 1, 2));
        }
        int[] wrongSpans = {0, 257, -1, LOW, HIGH};
        for (int span : wrongSpans) {
            bad("fill of span " + span, x -> x.fill(0, 3, 1, span));
        }
        int[] wrongPlaces = {-1, 1501, LOW, HIGH};
        for (int at : wrongPlaces) {
            bad("insert at " + at, x -> x.insert(0, at, 1));
            bad("remove from " + at, x -> x.remove(0, at, 1));
            bad("remove of none from " + at, x -> x.remove(0, at, 0));
            bad("byteAt " + at, x -> x.byteAt(0, at));
            bad("hash " + at, x -> x.hash(0, at));
        }
        bad("insert behind the place behind the last byte", x -> x.insert(0, x.size(0) + 1, 1));
        bad("remove of one behind the last byte", x -> x.remove(0, x.size(0), 1));
        bad("remove of one more than there are", x -> x.remove(0, 0, x.size(0) + 1));
        bad("remove of -1", x -> x.remove(0, 1, -1));
        bad("remove of the least number", x -> x.remove(0, 0, LOW));
        bad("remove of the greatest number", x -> x.remove(0, 0, HIGH));
        bad("byteAt behind the last byte", x -> x.byteAt(0, x.size(0)));
        bad("hash behind the last byte", x -> x.hash(0, x.size(0)));
    }

    private static void badBlocks() {
        int[] wrong = {-1, 1500, LOW, HIGH};
        for (int k : wrong) {
            bad("block " + k, x -> x.block(0, k, 0));
            bad("digest of block " + k, x -> x.digest(0, k, 0));
            bad("uses of block " + k, x -> x.uses(0, k));
        }
        bad("block behind the last one", x -> x.block(0, x.blocks(0), 1));
        bad("digest behind the last one", x -> x.digest(0, x.blocks(0), 1));
        bad("uses behind the last one", x -> x.uses(0, x.blocks(0)));
        int[] wrongWhats = {-1, 2, LOW, HIGH};
        for (int what : wrongWhats) {
            bad("block, what " + what, x -> x.block(0, 0, what));
            bad("digest, manner " + what, x -> x.digest(0, 0, what));
            bad("told, what " + what, x -> x.told(0, what));
        }
        int[] wrongAlikes = {-1, 4, LOW, HIGH};
        for (int what : wrongAlikes) {
            bad("alike, what " + what, x -> x.alike(0, 1, what));
        }
        int[] wrongKept = {-1, 6, LOW, HIGH};
        for (int what : wrongKept) {
            bad("kept, what " + what, x -> x.kept(what));
        }
    }

    private static void badSnapshots() {
        int[] wrong = {-1, 10, LOW, HIGH};
        for (int s : wrong) {
            bad("drop of " + s, x -> x.drop(s));
            bad("restore of " + s, x -> x.restore(s, 0));
            bad("told of " + s, x -> x.told(s, 0));
        }
    }

    /** Everything that can be asked of an object, as far as some 400 calls go. */
    private static List<Long> answers(CutBlocks x) {
        List<Long> all = new ArrayList<>();
        for (int t = 0; t < 4; t++) {
            all.add((long) x.size(t));
            int blocks = x.blocks(t);
            all.add((long) blocks);
            for (int k = 0; k < Math.min(blocks, 15); k++) {
                all.add((long) x.block(t, k, 1));
                all.add(x.digest(t, k, 0));
                all.add(x.digest(t, k, 1));
                all.add((long) x.uses(t, k));
            }
            all.add(x.hash(t, x.size(t) - 1));
        }
        for (int what = 0; what < 6; what++) {
            all.add((long) x.kept(what));
        }
        for (int s = 0; s < 10; s++) {
            all.add((long) x.told(s, 0));
            all.add((long) x.told(s, 1));
        }
        snapshotAnswers(x, all);
        return all;
    }

    private static void snapshotAnswers(CutBlocks x, List<Long> all) {
        x.rule(0, 200, 600, 9, 0, 1);
        for (int s = 0; s < 10; s++) {
            all.add((long) x.restore(s, 3));
            all.add(x.digest(3, 0, 0));
            all.add(x.digest(3, x.blocks(3) - 1, 0));
        }
        all.add((long) x.keep(2));
        all.add((long) x.keep(3));
        for (int what = 0; what < 6; what++) {
            all.add((long) x.kept(what));
        }
    }

    private static void changesNothing(String name, Builder builder, Call call, long want) {
        List<Long> before = answers(builder.built());
        CutBlocks x = builder.built();
        due(name, call.of(x), want);
        due(name + ": it is as it was", answers(x).equals(before) ? 1 : 0, 1);
    }

    private static void allBad(Builder builder) {
        for (Map.Entry<String, Call> call : BAD_CALLS.entrySet()) {
            changesNothing(call.getKey(), builder, call.getValue(), BAD);
        }
    }

    /** Short texts, one of them without bytes; snapshots 0, 2 and 3 are there. */
    private static CutBlocks few() {
        CutBlocks x = new CutBlocks();
        x.seed(77);
        x.rule(2, 3, 12, 5, 3, 1);
        x.fill(0, 60, 5, 256);
        x.fill(1, 40, 9, 3);
        x.add(2, 255);
        x.keep(0);
        x.keep(1);
        x.copy(2, 0);
        x.insert(2, 20, 7);
        x.keep(2);
        x.keep(3);
        x.drop(1);
        return x;
    }

    /** A full text, and ten snapshots. */
    private static CutBlocks fullText() {
        CutBlocks x = full();
        x.rule(1, 20, 300, 6, 3, 4);
        x.copy(0, 1);
        x.insert(0, 700, 3);
        x.fill(2, 90, 8, 2);
        x.keep(1);
        for (int s = 1; s < 10; s++) {
            x.keep(s % 3);
        }
        return x;
    }

    /** 300 blocks are kept. */
    private static CutBlocks fullOfBlocks() {
        CutBlocks x = new CutBlocks();
        cutEvery(x, 2);
        giveDifferentPairs(x, 0, 300);
        x.keep(0);
        x.copy(1, 0);
        x.remove(1, 100, 400);
        x.keep(1);
        x.fill(2, 9, 1, 1);
        x.insert(0, 600, 255);
        return x;
    }

    /** 6000 bytes are kept. */
    private static CutBlocks fullOfBytes() {
        CutBlocks x = new CutBlocks();
        x.rule(3, 150, 150, 9, 0, 1);
        for (int t = 0; t < 4; t++) {
            fillUp(x, t, 1500, 100 + 10 * t, 256);
            x.keep(t);
        }
        x.remove(0, 0, 20);
        x.remove(2, 0, 1450);
        return x;
    }

    @Sentence("REFUSALS change nothing: BAD, of an object with short texts")
    static void badOfFew() {
        allBad(RefusalsTest::few);
        int[] notThere = {1, 4, 9};
        for (int s : notThere) {
            changesNothing("drop of " + s, RefusalsTest::few, x -> x.drop(s), BAD);
            changesNothing("restore of " + s, RefusalsTest::few, x -> x.restore(s, 0), BAD);
            changesNothing("told of " + s, RefusalsTest::few, x -> x.told(s, 1), BAD);
        }
        changesNothing("remove from the empty text", RefusalsTest::few, x -> x.remove(3, 0, 1), BAD);
        changesNothing("insert behind the empty text", RefusalsTest::few, x -> x.insert(3, 1, 1), BAD);
    }

    @Sentence("REFUSALS change nothing, of several the first one here: BAD of what is FULL too, full texts and ten SNAPSHOTS")
    static void badOfFullText() {
        allBad(RefusalsTest::fullText);
    }

    @Sentence("REFUSALS change nothing, of several the first one here: BAD of what is FULL too, 300 BLOCKS")
    static void badOfFullOfBlocks() {
        allBad(RefusalsTest::fullOfBlocks);
    }

    @Sentence("REFUSALS change nothing, of several the first one here: BAD of what is FULL too, 6000 bytes")
    static void badOfFullOfBytes() {
        allBad(RefusalsTest::fullOfBytes);
    }

    @Sentence("REFUSALS change nothing: FULL, of a TEXT")
    static void fullOfAText() {
        Builder builder = RefusalsTest::fullText;
        changesNothing("add", builder, x -> x.add(1, 1), FULL);
        changesNothing("fill of one", builder, x -> x.fill(1, 1, 1, 1), FULL);
        changesNothing("fill of 400", builder, x -> x.fill(1, 400, 7, 256), FULL);
        changesNothing("insert at the first place", builder, x -> x.insert(1, 0, 1), FULL);
        changesNothing("insert between", builder, x -> x.insert(1, 750, 1), FULL);
        changesNothing("insert at the last place", builder, x -> x.insert(1, 1500, 1), FULL);
        Builder oneFewer = () -> {
            CutBlocks x = fullText();
            x.remove(1, 5, 1);
            return x;
        };
        changesNothing("fill of two", oneFewer, x -> x.fill(1, 2, 7, 256), FULL);
    }

    @Sentence("REFUSALS change nothing: FULL, of what is KEPT")
    static void fullOfKept() {
        for (int t = 0; t < 4; t++) {
            int text = t;
            changesNothing("keep, ten are there", RefusalsTest::fullText, x -> x.keep(text), FULL);
        }
        changesNothing("keep, 301 blocks", RefusalsTest::fullOfBlocks, x -> x.keep(0), FULL);
        changesNothing("keep, other blocks", RefusalsTest::fullOfBlocks, x -> x.keep(2), FULL);
        changesNothing("keep, more than 6000 bytes", RefusalsTest::fullOfBytes, x -> x.keep(0), FULL);
        changesNothing("keep, a short text", RefusalsTest::fullOfBytes, x -> x.keep(2), FULL);
    }

    @Sentence("REFUSALS change nothing: FULL, when some BLOCKS of the TEXT would have had room")
    static void fullThoughSomeHaveRoom() {
        Builder blocks = () -> {
            CutBlocks x = fullOfBlocks();
            due("drop", x.drop(0), 400);
            return x;
        };
        due("blocks that are there", blocks.built().kept(1), 100);
        due("blocks of the text, with these 100", blocks.built().blocks(0), 301);
        changesNothing("keep, one block too many", blocks, x -> x.keep(0), FULL);
        Builder bytes = () -> {
            CutBlocks x = fullOfBytes();
            due("drop", x.drop(3), 1500);
            give(x, 2, 255);
            due("keep", x.keep(2), 3);
            due("fill", x.fill(0, 20, 1, 256), 1500);
            return x;
        };
        due("bytes that are there", bytes.built().kept(2), 4501);
        changesNothing("keep, one byte too many", bytes, x -> x.keep(0), FULL);
    }

    @Sentence("Calls that answer a long have NOTHING in place of BAD")
    static void nothing() {
        CutBlocks x = few();
        due("NOTHING", CutBlocks.NOTHING, -1L);
        due("BAD", CutBlocks.BAD, -1);
        due("FULL", CutBlocks.FULL, -2);
        due("digest, no such text", x.digest(4, 0, 0), CutBlocks.NOTHING);
        due("digest, no such block", x.digest(0, x.blocks(0), 0), CutBlocks.NOTHING);
        due("digest, no such manner", x.digest(0, 0, 2), CutBlocks.NOTHING);
        due("hash, no such text", x.hash(4, 0), CutBlocks.NOTHING);
        due("hash, no such byte", x.hash(0, 60), CutBlocks.NOTHING);
    }

    public static void main(String[] args) throws Exception {
        runSentences(RefusalsTest.class);
    }
}
