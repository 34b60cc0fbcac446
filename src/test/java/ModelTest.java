import java.util.ArrayList;
import java.util.Collections;
import java.util.HashMap;
import java.util.LinkedHashMap;
import java.util.LinkedHashSet;
import java.util.List;
import java.util.Map;
import java.util.Random;
import java.util.TreeMap;

/**
 * Runs of calls, of a fixed source of numbers, whose answers are compared with those of a model that
 * says the document's words as slowly and plainly as can be. Fails also if the runs left out an
 * outcome that they are here for.
 */
public final class ModelTest {
    private static final int RUNS = 240;
    // With the 90 calls that look at the state, no object has more than 512.
    private static final int CALLS = 422;
    private static final int BYTES_LOOKED_AT = 20;
    private static final long WORD = 1L << 32;
    private static final Map<String, Integer> seen = new TreeMap<>();

    /** The document's words. Nothing is remembered but the bytes and the numbers. */
    private static final class Model {
        long seed = 1;
        int mode = 0, least = 4, greatest = 64, bits = 3, level = 0, record = 1;
        List<List<Integer>> texts = new ArrayList<>();
        Map<Integer, List<List<Integer>>> snapshots = new TreeMap<>();

        Model() {
            for (int t = 0; t < 4; t++) {
                texts.add(new ArrayList<>());
            }
        }

        long[] table() {
            long[] table = new long[256];
            long x = seed;
            for (int i = 0; i < 256; i++) {
                x = Math.floorMod(x * 1664525L + 1013904223L, WORD);
                table[i] = x ^ (x / 65536);
            }
            return table;
        }

        static long turn(long x, int by) {
            return (x << by) % WORD + (x >> (32 - by));
        }

        /** H with each of the bytes, if they were one block. */
        List<Long> numbers(List<Integer> bytes) {
            long[] table = table();
            List<Long> all = new ArrayList<>();
            long h = 0;
            for (int i = 0; i < bytes.size(); i++) {
                long number = table[bytes.get(i)];
                if (mode == 3) {
                    h = turn(h, 1) ^ number;
                    if (i >= 16) {
                        h ^= turn(table[bytes.get(i - 16)], 16);
                    }
                } else {
                    h = (h * 2 + number) % WORD;
                }
                all.add(h);
            }
            return all;
        }

        static boolean marked(long h, int b) {
            return h < (1L << (32 - b));
        }

        boolean allowed(int n) {
            return n >= least && n % record == 0;
        }

        boolean last(int n) {
            return allowed(n) && n + record > greatest;
        }

        int firstBlock(List<Integer> bytes) {
            List<Long> numbers = numbers(bytes.subList(0, Math.min(bytes.size(), greatest)));
            for (int n = 1; n <= numbers.size(); n++) {
                long h = numbers.get(n - 1);
                if (!allowed(n)) {
                    continue;
                }
                if (mode == 0 || mode == 3) {
                    if (marked(h, bits) || last(n)) {
                        return n;
                    }
                } else if (mode == 1) {
                    int b = n < Math.pow(2, bits) ? bits + level : bits - level;
                    if (marked(h, b) || last(n)) {
                        return n;
                    }
                } else if (marked(h, bits)) {
                    return n;
                } else if (last(n)) {
                    for (int m = n - 1; m >= 1; m--) {
                        if (allowed(m) && marked(numbers.get(m - 1), bits - level)) {
                            saw("second marks");
                            return m;
                        }
                    }
                    return n;
                }
            }
            return bytes.size();
        }

        List<List<Integer>> cut(int text) {
            List<List<Integer>> blocks = new ArrayList<>();
            List<Integer> rest = texts.get(text);
            while (!rest.isEmpty()) {
                int n = firstBlock(rest);
                blocks.add(new ArrayList<>(rest.subList(0, n)));
                rest = rest.subList(n, rest.size());
            }
            return blocks;
        }

        static long mixed(List<Integer> bytes) {
            long h = 2166136261L;
            for (int b : bytes) {
                h = ((h ^ b) * 16777619L) % WORD;
            }
            return h;
        }

        static long summed(List<Integer> bytes) {
            long a = 1;
            long b = 0;
            for (int x : bytes) {
                a = (a + x) % 65521;
                b = (b + a) % 65521;
            }
            return 65536 * b + a;
        }

        Map<List<Integer>, Integer> uses() {
            Map<List<Integer>, Integer> uses = new LinkedHashMap<>();
            for (List<List<Integer>> row : snapshots.values()) {
                for (List<Integer> block : row) {
                    uses.merge(block, 1, Integer::sum);
                }
            }
            return uses;
        }

        static int bytes(Iterable<List<Integer>> blocks) {
            int n = 0;
            for (List<Integer> block : blocks) {
                n += block.size();
            }
            return n;
        }

        boolean text(int t) {
            return 0 <= t && t <= 3;
        }

        boolean in(int x, int low, int high) {
            return low <= x && x <= high;
        }

        long answer(String call, int[] a) {
            switch (call) {
                case "seed":
                    seed = Math.floorMod((long) a[0], WORD);
                    return 1;
                case "rule":
                    return rule(a);
                case "add":
                    return text(a[0]) ? put(a[0], texts.get(a[0]).size(), a[1]) : -1;
                case "fill":
                    return fill(a[0], a[1], a[2], a[3]);
                case "insert":
                    return text(a[0]) ? put(a[0], a[1], a[2]) : -1;
                case "remove":
                    return remove(a[0], a[1], a[2]);
                case "copy":
                    if (!text(a[0]) || !text(a[1])) {
                        return -1;
                    }
                    texts.set(a[0], new ArrayList<>(texts.get(a[1])));
                    return texts.get(a[0]).size();
                case "size":
                    return text(a[0]) ? texts.get(a[0]).size() : -1;
                case "byteAt":
                    return text(a[0]) && in(a[1], 0, texts.get(a[0]).size() - 1) ? texts.get(a[0]).get(a[1]) : -1;
                case "keep":
                    return keep(a[0]);
                case "drop":
                    return drop(a[0]);
                case "restore":
                    return restore(a[0], a[1]);
                case "told":
                    if (!snapshots.containsKey(a[0]) || !in(a[1], 0, 1)) {
                        return -1;
                    }
                    return a[1] == 0 ? snapshots.get(a[0]).size() : bytes(snapshots.get(a[0]));
                case "kept":
                    return kept(a[0]);
                default:
                    return text(a[0]) ? ofBlocks(call, a) : -1;
            }
        }

        long rule(int[] a) {
            if (!in(a[0], 0, 3) || !in(a[1], 1, 200) || !in(a[2], a[1], 600) || !in(a[3], 1, 9)
                    || !in(a[4], 0, a[3]) || !in(a[5], 1, 16)) {
                return -1;
            }
            boolean some = false;
            for (int n = a[1]; n <= a[2]; n++) {
                some |= n % a[5] == 0;
            }
            if (!some) {
                saw("rule without multiple");
                return -1;
            }
            mode = a[0];
            least = a[1];
            greatest = a[2];
            bits = a[3];
            level = a[4];
            record = a[5];
            return 1;
        }

        long put(int text, int at, int b) {
            List<Integer> bytes = texts.get(text);
            if (!in(at, 0, bytes.size()) || !in(b, 0, 255)) {
                return -1;
            }
            if (bytes.size() == 1500) {
                return -2;
            }
            bytes.add(at, b);
            return bytes.size();
        }

        long fill(int text, int n, int seed, int span) {
            if (!text(text) || !in(n, 1, 400) || !in(span, 1, 256)) {
                return -1;
            }
            List<Integer> bytes = texts.get(text);
            if (bytes.size() + n > 1500) {
                return -2;
            }
            long x = Math.floorMod((long) seed, WORD);
            for (int i = 0; i < n; i++) {
                x = Math.floorMod(x * 1103515245L + 12345L, WORD);
                bytes.add((int) (x / 65536 % span));
            }
            return bytes.size();
        }

        long remove(int text, int at, int n) {
            if (!text(text) || at < 0 || n < 0 || (long) at + n > texts.get(text).size()) {
                return -1;
            }
            texts.get(text).subList(at, at + n).clear();
            return texts.get(text).size();
        }

        long ofBlocks(String call, int[] a) {
            List<List<Integer>> blocks = cut(a[0]);
            switch (call) {
                case "blocks":
                    return blocks.size();
                case "block":
                    if (!in(a[1], 0, blocks.size() - 1) || !in(a[2], 0, 1)) {
                        return -1;
                    }
                    return a[2] == 0 ? bytes(blocks.subList(0, a[1])) : blocks.get(a[1]).size();
                case "digest":
                    if (!in(a[1], 0, blocks.size() - 1) || !in(a[2], 0, 1)) {
                        return -1;
                    }
                    return a[2] == 0 ? mixed(blocks.get(a[1])) : summed(blocks.get(a[1]));
                case "hash":
                    return hash(blocks, a[1]);
                case "alike":
                    return text(a[1]) && in(a[2], 0, 3) ? alike(blocks, cut(a[1]), a[2]) : -1;
                case "uses":
                    return in(a[1], 0, blocks.size() - 1) ? uses().getOrDefault(blocks.get(a[1]), 0) : -1;
                default:
                    throw new IllegalArgumentException(call);
            }
        }

        long hash(List<List<Integer>> blocks, int i) {
            if (i < 0) {
                return -1;
            }
            int left = i;
            for (List<Integer> block : blocks) {
                if (left < block.size()) {
                    return numbers(block).get(left);
                }
                left -= block.size();
            }
            return -1;
        }

        long alike(List<List<Integer>> mine, List<List<Integer>> others, int what) {
            if (what < 2) {
                List<List<Integer>> found = new ArrayList<>(mine);
                found.retainAll(new LinkedHashSet<>(others));
                return what == 0 ? found.size() : bytes(found);
            }
            if (what == 3) {
                Collections.reverse(mine);
                Collections.reverse(others);
            }
            int n = 0;
            while (n < mine.size() && n < others.size() && mine.get(n).equals(others.get(n))) {
                n++;
            }
            return n;
        }

        long keep(int text) {
            if (!text(text)) {
                return -1;
            }
            int number = 0;
            while (snapshots.containsKey(number)) {
                number++;
            }
            if (number == 10) {
                saw("keep full of snapshots");
                return -2;
            }
            snapshots.put(number, cut(text));
            int blocks = uses().size();
            int bytes = bytes(uses().keySet());
            if (blocks == 300 || bytes == 6000) {
                saw("keep to the brim of " + (blocks == 300 ? "blocks" : "bytes"));
            }
            if (blocks > 300 || bytes > 6000) {
                saw("keep full of " + (blocks > 300 ? "blocks" : "bytes"));
                snapshots.remove(number);
                return -2;
            }
            return number;
        }

        long drop(int snapshot) {
            if (!snapshots.containsKey(snapshot)) {
                return -1;
            }
            int before = bytes(uses().keySet());
            snapshots.remove(snapshot);
            int gone = before - bytes(uses().keySet());
            saw(gone == 0 ? "drop of no bytes" : "drop of bytes");
            return gone;
        }

        long restore(int snapshot, int text) {
            if (!snapshots.containsKey(snapshot) || !text(text)) {
                return -1;
            }
            List<Integer> bytes = new ArrayList<>();
            for (List<Integer> block : snapshots.get(snapshot)) {
                bytes.addAll(block);
            }
            texts.set(text, bytes);
            return bytes.size();
        }

        long kept(int what) {
            Map<List<Integer>, Integer> uses = uses();
            Map<Long, Integer> keys = new HashMap<>();
            for (List<Integer> block : uses.keySet()) {
                keys.merge(mixed(block) % 256, 1, Integer::sum);
            }
            int all = 0;
            int pairs = 0;
            int most = 0;
            for (int n : uses.values()) {
                all += n;
            }
            for (int n : keys.values()) {
                pairs += n * (n - 1) / 2;
                most = Math.max(most, n);
            }
            int[] answers = {snapshots.size(), uses.size(), bytes(uses.keySet()), all, pairs, most};
            return in(what, 0, 5) ? answers[what] : -1;
        }
    }

    private static void saw(String what) {
        seen.merge(what, 1, Integer::sum);
    }

    private static long got(CutBlocks x, String call, int[] a) {
        switch (call) {
            case "seed": return x.seed(a[0]);
            case "rule": return x.rule(a[0], a[1], a[2], a[3], a[4], a[5]);
            case "add": return x.add(a[0], a[1]);
            case "fill": return x.fill(a[0], a[1], a[2], a[3]);
            case "insert": return x.insert(a[0], a[1], a[2]);
            case "remove": return x.remove(a[0], a[1], a[2]);
            case "copy": return x.copy(a[0], a[1]);
            case "size": return x.size(a[0]);
            case "byteAt": return x.byteAt(a[0], a[1]);
            case "blocks": return x.blocks(a[0]);
            case "block": return x.block(a[0], a[1], a[2]);
            case "digest": return x.digest(a[0], a[1], a[2]);
            case "hash": return x.hash(a[0], a[1]);
            case "alike": return x.alike(a[0], a[1], a[2]);
            case "keep": return x.keep(a[0]);
            case "drop": return x.drop(a[0]);
            case "restore": return x.restore(a[0], a[1]);
            case "told": return x.told(a[0], a[1]);
            case "uses": return x.uses(a[0], a[1]);
            case "kept": return x.kept(a[0]);
            default: throw new IllegalArgumentException(call);
        }
    }

    /** Chooses calls: mostly good ones, at edges often, and some with any numbers at all. */
    private static final class Source {
        final Random random;
        final Model model;
        final int manner;

        Source(int run, Model model) {
            random = new Random(run);
            this.model = model;
            manner = run % 4;
        }

        int wild() {
            int[] edges = {-1, 0, 1, 2, 3, 4, 5, 6, 9, 10, 16, 17, 200, 201, 255, 256, 257, 400, 401, 600, 601,
                1499, 1500, 1501, Integer.MAX_VALUE, Integer.MIN_VALUE, -2, Integer.MAX_VALUE - 1};
            return random.nextInt(8) == 0 ? random.nextInt() : edges[random.nextInt(edges.length)];
        }

        int upTo(int high) {
            if (random.nextInt(40) == 0) {
                return wild();
            }
            int edge = random.nextInt(12);
            return edge == 0 ? high : edge == 1 ? high + 1 : edge == 2 ? -1 : random.nextInt(high + 1);
        }

        int within(int low, int high) {
            return random.nextInt(30) == 0 ? low - 1 + random.nextInt(2) * (high - low + 2) : low + random.nextInt(high - low + 1);
        }

        int text() {
            return random.nextInt(40) == 0 ? wild() : random.nextInt(4);
        }

        int sizeOf(int text) {
            return model.text(text) ? model.texts.get(text).size() : 7;
        }

        int blockOf(int text) {
            return upTo(model.text(text) ? Math.max(0, model.cut(text).size() - 1) : 3);
        }

        int snapshot() {
            if (random.nextInt(6) == 0 || model.snapshots.isEmpty()) {
                return upTo(10);
            }
            List<Integer> there = new ArrayList<>(model.snapshots.keySet());
            return there.get(random.nextInt(there.size()));
        }

        int[] rule() {
            // Manners 1 and 2 go for many small blocks, and for few great ones.
            int least = manner == 1 ? within(1, 3) : manner == 2 ? within(100, 200) : random.nextBoolean() ? within(1, 12) : within(1, 200);
            int most = manner == 1 ? least + random.nextInt(3) : least + random.nextInt(random.nextBoolean() ? 40 : Math.max(1, 601 - least));
            int greatest = random.nextInt(30) == 0 ? random.nextBoolean() ? 601 : least - 1 : Math.min(600, most);
            int bits = random.nextBoolean() ? within(1, 4) : within(1, 9);
            int level = within(0, Math.max(0, bits));
            int record = random.nextInt(3) > 0 ? 1 : within(1, 16);
            return new int[] {within(0, 3), least, greatest, bits, level, record};
        }

        int span() {
            int kind = random.nextInt(4);
            return kind == 0 ? within(1, 4) : kind == 1 ? 256 : within(1, 256);
        }

        String name() {
            String[] all = {"seed", "rule", "rule", "add", "fill", "fill", "insert", "insert", "remove", "copy", "size",
                "byteAt", "blocks", "block", "block", "digest", "hash", "hash", "alike", "alike", "keep", "keep",
                "drop", "restore", "told", "uses", "kept", "kept"};
            String call = all[random.nextInt(all.length)];
            boolean unmaking = call.equals("drop") || call.equals("remove");
            return manner != 0 && unmaking && random.nextInt(3) > 0 ? "fill" : call;
        }

        int[] arguments(String call) {
            int text = text();
            int size = sizeOf(text);
            switch (call) {
                case "seed": return new int[] {random.nextInt(3) == 0 ? wild() : random.nextInt()};
                case "rule": return rule();
                case "add": return new int[] {text, upTo(255)};
                case "fill": return new int[] {text, random.nextBoolean() ? within(1, 400) : within(300, 400),
                    random.nextInt(3) == 0 ? 1 : random.nextInt(), span()};
                case "insert": return new int[] {text, upTo(size), upTo(255)};
                case "remove":
                    int at = upTo(size);
                    int left = Math.max(0, Math.min(size, size - at));
                    return new int[] {text, at, random.nextBoolean() ? upTo(left) : upTo(Math.min(left, 5))};
                case "copy": return new int[] {text, text()};
                case "byteAt": return new int[] {text, upTo(Math.max(0, size - 1))};
                case "block": return new int[] {text, blockOf(text), upTo(1)};
                case "digest": return new int[] {text, blockOf(text), upTo(1)};
                case "hash": return new int[] {text, upTo(Math.max(0, size - 1))};
                case "alike": return new int[] {text, text(), upTo(3)};
                case "drop": return new int[] {snapshot()};
                case "restore": return new int[] {snapshot(), text};
                case "told": return new int[] {snapshot(), upTo(1)};
                case "uses": return new int[] {text, blockOf(text)};
                case "kept": return new int[] {upTo(5)};
                default: return new int[] {text};
            }
        }
    }

    private static String shown(String call, int[] a) {
        List<String> all = new ArrayList<>();
        for (int x : a) {
            all.add(Integer.toString(x));
        }
        return call + "(" + String.join(", ", all) + ")";
    }

    /** The sizes, some bytes of each text, and the numbers of what is kept. */
    private static boolean sameState(CutBlocks x, Model model) {
        for (int t = 0; t < 4; t++) {
            List<Integer> bytes = model.texts.get(t);
            if (x.size(t) != bytes.size()) {
                return false;
            }
            for (int j = 0; j < BYTES_LOOKED_AT && !bytes.isEmpty(); j++) {
                int i = j * (bytes.size() - 1) / (BYTES_LOOKED_AT - 1);
                if (x.byteAt(t, i) != bytes.get(i)) {
                    return false;
                }
            }
        }
        for (int what = 0; what < 6; what++) {
            if (x.kept(what) != model.kept(what)) {
                return false;
            }
        }
        return true;
    }

    private static boolean run(int number) {
        CutBlocks x = new CutBlocks();
        Model model = new Model();
        Source source = new Source(number, model);
        for (int i = 0; i < CALLS; i++) {
            String call = source.name();
            int[] a = source.arguments(call);
            long due = model.answer(call, a);
            long got = got(x, call, a);
            saw(call + (due == -1 ? " refused" : due == -2 ? " full" : " answered"));
            if (got != due) {
                System.out.println("run " + number + ", call " + i + ": " + shown(call, a) + " answered " + got + ", due is " + due);
                return false;
            }
        }
        if (!sameState(x, model)) {
            System.out.println("run " + number + ": the state behind the last call is not as due");
            return false;
        }
        return true;
    }

    private static final List<String> OUTCOMES = List.of(
            "seed answered", "rule answered", "rule refused", "rule without multiple", "add answered", "add refused",
            "add full", "fill answered", "fill refused", "fill full", "insert answered", "insert refused", "insert full",
            "remove answered", "remove refused", "copy answered", "copy refused", "size answered", "size refused",
            "byteAt answered", "byteAt refused", "blocks answered", "blocks refused", "block answered", "block refused",
            "digest answered", "digest refused", "hash answered", "hash refused", "alike answered", "alike refused",
            "keep answered", "keep refused", "keep full", "keep full of snapshots", "keep full of blocks",
            "keep full of bytes", "drop answered", "drop refused", "drop of bytes", "drop of no bytes",
            "restore answered", "restore refused", "told answered", "told refused", "uses answered", "uses refused",
            "kept answered", "kept refused", "second marks");

    public static void main(String[] args) {
        int wrong = 0;
        for (int number = 0; number < RUNS; number++) {
            if (!run(number)) {
                wrong++;
            }
        }
        for (String outcome : OUTCOMES) {
            if (!seen.containsKey(outcome)) {
                System.out.println("no run had the outcome '" + outcome + "'");
                wrong++;
            }
        }
        if (args.length > 0) {
            System.out.println(seen);
        }
        System.out.println(wrong == 0 ? "all runs are as the model's" : wrong + " runs or outcomes are wrong");
        if (wrong != 0) {
            System.exit(1);
        }
    }
}
