import java.util.Arrays;

/**
 * Four texts, cut to blocks where their own bytes tell, and snapshots of them whose like blocks are
 * kept once. The document DOC.md says what each call answers; BAD, FULL and NOTHING are refusals,
 * which change nothing.
 */
public final class CutBlocks {
    public static final int BAD = -1, FULL = -2;
    public static final long NOTHING = -1L;

    private static final int TEXTS = 4;
    private static final int TEXT_BYTES = 1500;
    private static final int FILL_MOST = 400;
    private static final int BYTE_VALUES = 256;
    private static final int SNAPSHOTS = 10;
    private static final int KEPT_BLOCKS = 300;
    private static final int KEPT_BYTES = 6000;
    private static final int NONE = -1;

    private final Rules rules;
    private final Text[] texts;
    private final Store store;

    public CutBlocks() {
        rules = new Rules();
        texts = new Text[TEXTS];
        for (int t = 0; t < TEXTS; t++) {
            texts[t] = new Text();
        }
        store = new Store();
    }

    public int seed(int seed) {
        rules.sow(seed);
        forgetAllCuts();
        return 1;
    }

    public int rule(int mode, int least, int greatest, int bits, int level, int record) {
        if (!Rules.fit(mode, least, greatest, bits, level, record)) {
            return BAD;
        }
        rules.take(mode, least, greatest, bits, level, record);
        forgetAllCuts();
        return 1;
    }

    // ---- texts

    public int add(int text, int b) {
        if (!isText(text) || !isByte(b)) {
            return BAD;
        }
        return texts[text].put(texts[text].length, b);
    }

    public int fill(int text, int n, int seed, int span) {
        if (!isText(text) || n < 1 || n > FILL_MOST || span < 1 || span > BYTE_VALUES) {
            return BAD;
        }
        return texts[text].sow(n, seed, span);
    }

    public int insert(int text, int at, int b) {
        if (!isText(text) || at < 0 || at > texts[text].length || !isByte(b)) {
            return BAD;
        }
        return texts[text].put(at, b);
    }

    public int remove(int text, int at, int n) {
        if (!isText(text) || at < 0 || at > texts[text].length) {
            return BAD;
        }
        if (n < 0 || n > texts[text].length - at) {
            return BAD;
        }
        return texts[text].take(at, n);
    }

    public int copy(int text, int from) {
        if (!isText(text) || !isText(from)) {
            return BAD;
        }
        return texts[text].become(texts[from]);
    }

    public int size(int text) {
        return isText(text) ? texts[text].length : BAD;
    }

    public int byteAt(int text, int i) {
        return hasByte(text, i) ? texts[text].row.bytes[i] : BAD;
    }

    // ---- blocks

    public int blocks(int text) {
        return isText(text) ? cutRow(text).count : BAD;
    }

    public int block(int text, int k, int what) {
        if (!hasBlock(text, k) || what < 0 || what > 1) {
            return BAD;
        }
        Row row = cutRow(text);
        return what == 0 ? row.starts[k] : row.bytesOf(k);
    }

    public long digest(int text, int k, int manner) {
        if (!hasBlock(text, k) || manner < 0 || manner > 1) {
            return NOTHING;
        }
        Row row = cutRow(text);
        return manner == 0 ? unsigned(row.mixedSum(k)) : row.doubleSum(k);
    }

    public long hash(int text, int i) {
        if (!hasByte(text, i)) {
            return NOTHING;
        }
        Row row = cutRow(text);
        return unsigned(rules.numberAt(row.bytes, row.startOfBlockWith(i), i));
    }

    public int alike(int text, int other, int what) {
        if (!isText(text) || !isText(other) || what < 0 || what > 3) {
            return BAD;
        }
        Row mine = indexedRow(text);
        Row others = indexedRow(other);
        switch (what) {
            case 0:
                return mine.blocksIn(others);
            case 1:
                return mine.bytesIn(others);
            case 2:
                return mine.firstLike(others);
            default:
                return mine.lastLike(others);
        }
    }

    // ---- kept

    public int keep(int text) {
        return isText(text) ? store.takeIn(indexedRow(text)) : BAD;
    }

    public int drop(int snapshot) {
        return store.has(snapshot) ? store.letGo(snapshot) : BAD;
    }

    public int restore(int snapshot, int text) {
        if (!store.has(snapshot) || !isText(text)) {
            return BAD;
        }
        return store.giveBack(snapshot, texts[text]);
    }

    public int told(int snapshot, int what) {
        if (!store.has(snapshot) || what < 0 || what > 1) {
            return BAD;
        }
        Snapshot one = store.snapshots[snapshot];
        return what == 0 ? one.count : one.length;
    }

    public int uses(int text, int k) {
        return hasBlock(text, k) ? store.placesOf(indexedRow(text), k) : BAD;
    }

    public int kept(int what) {
        switch (what) {
            case 0:
                return store.snapshotsThere();
            case 1:
                return store.row.count;
            case 2:
                return store.row.end();
            case 3:
                return store.allPlaces();
            case 4:
                return store.row.pairsOfOneKey();
            case 5:
                return store.row.mostOfOneKey();
            default:
                return BAD;
        }
    }

    private static boolean isText(int text) {
        return text >= 0 && text < TEXTS;
    }

    private static boolean isByte(int b) {
        return b >= 0 && b < BYTE_VALUES;
    }

    private boolean hasByte(int text, int i) {
        return isText(text) && i >= 0 && i < texts[text].length;
    }

    private boolean hasBlock(int text, int k) {
        return isText(text) && k >= 0 && k < cutRow(text).count;
    }

    private static long unsigned(int number) {
        return number & 0xFFFFFFFFL;
    }

    private Row cutRow(int text) {
        texts[text].cutBy(rules);
        return texts[text].row;
    }

    private Row indexedRow(int text) {
        texts[text].indexBy(rules);
        return texts[text].row;
    }

    private void forgetAllCuts() {
        for (int t = 0; t < TEXTS; t++) {
            texts[t].forgetCuts();
        }
    }

    /** THE TABLE and the RULES: where a block ends. */
    private static final class Rules {
        private static final int LEVELS = 1;
        private static final int SECOND_MARKS = 2;
        private static final int WINDOWED = 3;
        private static final int WINDOW = 16;

        private final int[] table = new int[BYTE_VALUES];
        private int mode;
        private int least;
        private int greatest;
        private int bits;
        private int level;
        private int record;

        Rules() {
            sow(1);
            take(0, 4, 64, 3, 0, 1);
        }

        static boolean fit(int mode, int least, int greatest, int bits, int level, int record) {
            if (mode < 0 || mode > WINDOWED || least < 1 || least > 200) {
                return false;
            }
            if (greatest < least || greatest > 600 || bits < 1 || bits > 9) {
                return false;
            }
            if (level < 0 || level > bits || record < 1 || record > 16) {
                return false;
            }
            return greatest - greatest % record >= least;
        }

        void take(int mode, int least, int greatest, int bits, int level, int record) {
            this.mode = mode;
            this.least = least;
            this.greatest = greatest;
            this.bits = bits;
            this.level = level;
            this.record = record;
        }

        void sow(int seed) {
            int x = seed;
            for (int i = 0; i < BYTE_VALUES; i++) {
                x = x * 1664525 + 1013904223;
                table[i] = x ^ (x >>> 16);
            }
        }

        /** The place behind the block that starts at start, in a text of length bytes. */
        int endOfBlock(int[] bytes, int start, int length) {
            int h = 0;
            int second = NONE;
            for (int i = start; i < length; i++) {
                h = numberWith(h, bytes, start, i);
                int n = i - start + 1;
                if (!allowed(n)) {
                    continue;
                }
                if (marked(h, marksAt(n))) {
                    return i + 1;
                }
                if (n + record > greatest) {
                    return second == NONE ? i + 1 : second;
                }
                if (mode == SECOND_MARKS && marked(h, bits - level)) {
                    second = i + 1;
                }
            }
            return length;
        }

        /** H with byte i, of the block that starts at start. */
        int numberAt(int[] bytes, int start, int i) {
            int h = 0;
            for (int at = start; at <= i; at++) {
                h = numberWith(h, bytes, start, at);
            }
            return h;
        }

        private int numberWith(int h, int[] bytes, int start, int i) {
            int number = table[bytes[i]];
            if (mode != WINDOWED) {
                return (h << 1) + number;
            }
            int turned = turnedLeft(h, 1) ^ number;
            if (i - start < WINDOW) {
                return turned;
            }
            return turned ^ turnedLeft(table[bytes[i - WINDOW]], WINDOW);
        }

        private boolean allowed(int n) {
            // The divisor is tested here too, though fit lets no other RECORD in.
            return n >= least && record > 0 && n % record == 0;
        }

        private int marksAt(int n) {
            if (mode != LEVELS) {
                return bits;
            }
            return n < 1 << bits ? bits + level : bits - level;
        }

        private static boolean marked(int h, int b) {
            // A shift by 32 would shift by 0.
            return b == 0 || h >>> (32 - b) == 0;
        }

        private static int turnedLeft(int number, int by) {
            return (number << by) | (number >>> (32 - by));
        }
    }

    /**
     * Blocks that stand one behind the other in a row of bytes. Those that are indexed are found by
     * their bytes: each KEY has a chain of the blocks that differ.
     */
    private static final class Row {
        private final int[] bytes;
        /** Block k has the bytes from starts[k] up to starts[k + 1]. */
        private final int[] starts;
        private final int[] sums;
        private final int[] heads;
        private final int[] nexts;
        private int count;

        Row(int mostBytes, int mostBlocks) {
            bytes = new int[mostBytes];
            starts = new int[mostBlocks + 1];
            sums = new int[mostBlocks];
            nexts = new int[mostBlocks];
            heads = new int[BYTE_VALUES];
            unchain();
        }

        int end() {
            return starts[count];
        }

        int bytesOf(int k) {
            return starts[k + 1] - starts[k];
        }

        /** One block more, whose bytes stand behind the others already. */
        void close(int end) {
            starts[count + 1] = end;
            count++;
        }

        int startOfBlockWith(int i) {
            int k = 0;
            while (k + 1 < count && starts[k + 1] <= i) {
                k++;
            }
            return starts[k];
        }

        /** Manner 0. */
        int mixedSum(int k) {
            int h = 0x811C9DC5;
            for (int i = starts[k]; i < starts[k + 1]; i++) {
                h = (h ^ bytes[i]) * 16777619;
            }
            return h;
        }

        /** Manner 1. */
        long doubleSum(int k) {
            int a = 1;
            int b = 0;
            for (int i = starts[k]; i < starts[k + 1]; i++) {
                a = (a + bytes[i]) % 65521;
                b = (b + a) % 65521;
            }
            return 65536L * b + a;
        }

        void unchain() {
            Arrays.fill(heads, NONE);
        }

        void index() {
            unchain();
            for (int k = 0; k < count; k++) {
                sums[k] = mixedSum(k);
                if (find(this, k) == NONE) {
                    chain(k);
                }
            }
        }

        void chain(int k) {
            int key = sums[k] & 255;
            nexts[k] = heads[key];
            heads[key] = k;
        }

        /** The block here that has the bytes of block k of an indexed row, or NONE. */
        int find(Row other, int k) {
            int at = heads[other.sums[k] & 255];
            for (int steps = 0; steps < count && at != NONE; steps++) {
                if (isLike(at, other, k)) {
                    return at;
                }
                at = nexts[at];
            }
            return NONE;
        }

        boolean isLike(int k, Row other, int otherK) {
            if (sums[k] != other.sums[otherK] || bytesOf(k) != other.bytesOf(otherK)) {
                return false;
            }
            int mine = starts[k];
            int others = other.starts[otherK];
            int n = bytesOf(k);
            for (int i = 0; i < n; i++) {
                if (bytes[mine + i] != other.bytes[others + i]) {
                    return false;
                }
            }
            return true;
        }

        int blocksIn(Row other) {
            int found = 0;
            for (int k = 0; k < count; k++) {
                if (other.find(this, k) != NONE) {
                    found++;
                }
            }
            return found;
        }

        int bytesIn(Row other) {
            int found = 0;
            for (int k = 0; k < count; k++) {
                if (other.find(this, k) != NONE) {
                    found += bytesOf(k);
                }
            }
            return found;
        }

        int firstLike(Row other) {
            int most = Math.min(count, other.count);
            for (int k = 0; k < most; k++) {
                if (!isLike(k, other, k)) {
                    return k;
                }
            }
            return most;
        }

        int lastLike(Row other) {
            int most = Math.min(count, other.count);
            for (int k = 0; k < most; k++) {
                if (!isLike(count - 1 - k, other, other.count - 1 - k)) {
                    return k;
                }
            }
            return most;
        }

        boolean hasRoomFor(int moreBytes) {
            return count < sums.length && moreBytes <= bytes.length - end();
        }

        /** Block k of an indexed row comes behind the others, and is indexed. */
        void append(Row other, int k) {
            int n = other.bytesOf(k);
            System.arraycopy(other.bytes, other.starts[k], bytes, end(), n);
            sums[count] = other.sums[k];
            chain(count);
            close(end() + n);
        }

        int pairsOfOneKey() {
            int pairs = 0;
            for (int key = 0; key < BYTE_VALUES; key++) {
                int n = chainLength(key);
                pairs += n * (n - 1) / 2;
            }
            return pairs;
        }

        int mostOfOneKey() {
            int most = 0;
            for (int key = 0; key < BYTE_VALUES; key++) {
                most = Math.max(most, chainLength(key));
            }
            return most;
        }

        private int chainLength(int key) {
            int n = 0;
            for (int at = heads[key]; at != NONE && n < count; at = nexts[at]) {
                n++;
            }
            return n;
        }
    }

    /** A text; its blocks are cut, and indexed, only when a call asks for them. */
    private static final class Text {
        private final Row row = new Row(TEXT_BYTES, TEXT_BYTES);
        private int length;
        private boolean cut;
        private boolean indexed;

        void forgetCuts() {
            cut = false;
            indexed = false;
        }

        void cutBy(Rules rules) {
            if (cut) {
                return;
            }
            row.count = 0;
            // No block is empty, so there are no more blocks than bytes.
            for (int k = 0; k < TEXT_BYTES && row.end() < length; k++) {
                row.close(rules.endOfBlock(row.bytes, row.end(), length));
            }
            cut = true;
        }

        void indexBy(Rules rules) {
            cutBy(rules);
            if (!indexed) {
                row.index();
                indexed = true;
            }
        }

        int put(int at, int b) {
            if (length >= TEXT_BYTES) {
                return FULL;
            }
            System.arraycopy(row.bytes, at, row.bytes, at + 1, length - at);
            row.bytes[at] = b;
            return changedTo(length + 1);
        }

        int sow(int n, int seed, int span) {
            if (n > TEXT_BYTES - length) {
                return FULL;
            }
            int x = seed;
            for (int i = 0; i < n; i++) {
                x = x * 1103515245 + 12345;
                row.bytes[length + i] = (x >>> 16) % span;
            }
            return changedTo(length + n);
        }

        int take(int at, int n) {
            System.arraycopy(row.bytes, at + n, row.bytes, at, length - at - n);
            return changedTo(length - n);
        }

        int become(Text from) {
            System.arraycopy(from.row.bytes, 0, row.bytes, 0, from.length);
            return changedTo(from.length);
        }

        int changedTo(int newLength) {
            length = newLength;
            forgetCuts();
            return length;
        }
    }

    /** The numbers of kept blocks, in the order in which a text had them. */
    private static final class Snapshot {
        private final int[] numbers = new int[TEXT_BYTES];
        private int count;
        private int length;
        private boolean there;
    }

    /** The snapshots, and their blocks, each once. */
    private static final class Store {
        private final Row row = new Row(KEPT_BYTES, KEPT_BLOCKS);
        private final int[] places = new int[KEPT_BLOCKS];
        private final int[] newNumbers = new int[KEPT_BLOCKS];
        private final Snapshot[] snapshots = new Snapshot[SNAPSHOTS];

        Store() {
            for (int s = 0; s < SNAPSHOTS; s++) {
                snapshots[s] = new Snapshot();
            }
        }

        boolean has(int snapshot) {
            return snapshot >= 0 && snapshot < SNAPSHOTS && snapshots[snapshot].there;
        }

        int takeIn(Row blocks) {
            int number = leastFree();
            if (number == NONE) {
                return FULL;
            }
            Snapshot one = snapshots[number];
            for (int k = 0; k < blocks.count; k++) {
                int at = row.find(blocks, k);
                if (at == NONE && !row.hasRoomFor(blocks.bytesOf(k))) {
                    // What came in for this snapshot has no place in any yet, so it goes.
                    sweep();
                    return FULL;
                }
                one.numbers[k] = at == NONE ? takeInNew(blocks, k) : at;
            }
            one.count = blocks.count;
            one.length = blocks.end();
            one.there = true;
            countPlaces(one, 1);
            return number;
        }

        int letGo(int snapshot) {
            Snapshot one = snapshots[snapshot];
            countPlaces(one, -1);
            one.there = false;
            return sweep();
        }

        int giveBack(int snapshot, Text text) {
            Snapshot one = snapshots[snapshot];
            int end = 0;
            for (int i = 0; i < one.count; i++) {
                int k = one.numbers[i];
                int n = row.bytesOf(k);
                System.arraycopy(row.bytes, row.starts[k], text.row.bytes, end, n);
                end += n;
            }
            return text.changedTo(end);
        }

        int placesOf(Row blocks, int k) {
            int at = row.find(blocks, k);
            return at == NONE ? 0 : places[at];
        }

        int allPlaces() {
            int all = 0;
            for (int k = 0; k < row.count; k++) {
                all += places[k];
            }
            return all;
        }

        int snapshotsThere() {
            int n = 0;
            for (int s = 0; s < SNAPSHOTS; s++) {
                if (snapshots[s].there) {
                    n++;
                }
            }
            return n;
        }

        private int leastFree() {
            for (int s = 0; s < SNAPSHOTS; s++) {
                if (!snapshots[s].there) {
                    return s;
                }
            }
            return NONE;
        }

        private int takeInNew(Row blocks, int k) {
            int number = row.count;
            places[number] = 0;
            row.append(blocks, k);
            return number;
        }

        private void countPlaces(Snapshot one, int by) {
            for (int i = 0; i < one.count; i++) {
                places[one.numbers[i]] += by;
            }
        }

        /** Blocks without places go, the others close up: how many bytes went. */
        private int sweep() {
            int before = row.end();
            int blocks = row.count;
            row.count = 0;
            row.unchain();
            for (int k = 0; k < blocks; k++) {
                if (places[k] > 0) {
                    newNumbers[k] = row.count;
                    places[row.count] = places[k];
                    // It only moves ahead, onto bytes and numbers that were looked at before.
                    row.append(row, k);
                }
            }
            renumber();
            return before - row.end();
        }

        private void renumber() {
            for (int s = 0; s < SNAPSHOTS; s++) {
                Snapshot one = snapshots[s];
                for (int i = 0; one.there && i < one.count; i++) {
                    one.numbers[i] = newNumbers[one.numbers[i]];
                }
            }
        }
    }
}
