import java.lang.reflect.Method;
import java.lang.reflect.Modifier;
import java.util.HashSet;
import java.util.Set;
import java.util.TreeMap;

/**
 * What the tests have in common.
 *
 * Many cuts are worked out by hand: a seed is chosen so that byte 0 has the number t in THE TABLE,
 * and the text has 0s alone. H with the n-th byte of a block is then (2^n - 1) t, but for MODE 3.
 * With t = ALWAYS every byte has any b MARKED. With t = NEVER none has one, in MODE 3 neither. With
 * t = 1, b are MARKED up to n = 32 - b and no more behind. With t = markedFrom(b) none is MARKED up
 * to n = b, and just b are, not one more, from n = b + 1 on.
 */
abstract class Checks {
    static final int BAD = -1;
    static final int FULL = -2;
    static final long NOTHING = -1L;
    static final int LOW = Integer.MIN_VALUE;
    static final int HIGH = Integer.MAX_VALUE;
    static final int[] WRONG_TEXTS = {-1, 4, LOW, HIGH};
    static final int ALWAYS = 0;
    static final int NEVER = 0x80000000;

    private static int wrong = 0;
    private static String place = "";

    static void due(String what, long got, long want) {
        if (got != want) {
            wrong++;
            System.out.println(place + ": " + what + " answered " + got + ", due is " + want);
        }
    }

    static void at(String newPlace) {
        place = newPlace;
    }

    /** Runs each method of the class that is of a sentence, in the order of their names. */
    static void runSentences(Class<?> tests) throws Exception {
        TreeMap<String, Method> all = new TreeMap<>();
        for (Method m : tests.getDeclaredMethods()) {
            if (m.isAnnotationPresent(Sentence.class)) {
                all.put(m.getName(), m);
            } else if (!Modifier.isPrivate(m.getModifiers()) && !m.isSynthetic() && !m.getName().equals("main")) {
                throw new IllegalStateException(m.getName() + " is neither private nor of a sentence");
            }
        }
        for (Method m : all.values()) {
            at(m.getName() + " (\"" + m.getAnnotation(Sentence.class).value() + "\")");
            m.invoke(null);
        }
        end(all.size() + " sentences hold");
    }

    static void end(String allRight) {
        System.out.println(wrong == 0 ? allRight : wrong + " answers are not as due");
        if (wrong != 0) {
            System.exit(1);
        }
    }

    static long unsigned(int number) {
        return number & 0xFFFFFFFFL;
    }

    /** THE TABLE of a seed, by numbers that do not wrap by themselves. */
    static long[] table(int seed) {
        long[] table = new long[256];
        long x = unsigned(seed);
        for (int i = 0; i < 256; i++) {
            x = (x * 1664525L + 1013904223L) % (1L << 32);
            table[i] = x ^ (x / 65536);
        }
        return table;
    }

    /** The seed with which byte 0 has this number. */
    static int seedFor(int number) {
        int x = number ^ (number >>> 16);
        int inverse = 1;
        for (int i = 0; i < 5; i++) {
            inverse *= 2 - 1664525 * inverse;
        }
        return (x - 1013904223) * inverse;
    }

    static int markedFrom(int b) {
        return -(1 << (31 - b));
    }

    /** An object whose text 0 has n 0s, and whose byte 0 has this number. */
    static CutBlocks zeros(int n, int number) {
        CutBlocks x = new CutBlocks();
        x.seed(seedFor(number));
        fillUp(x, 0, n, 1, 1);
        return x;
    }

    /** n bytes more, in as many calls as that takes: each has the next seed. */
    static void fillUp(CutBlocks x, int text, int n, int seed, int span) {
        int next = seed;
        for (int left = n; left > 0; left -= 400) {
            due("fill", x.fill(text, Math.min(left, 400), next, span) > 0 ? 1 : 0, 1);
            next++;
        }
    }

    /** How many bytes the first block of text 0 has, by these rules. */
    static int firstBlock(CutBlocks x, int mode, int least, int greatest, int bits, int level, int record) {
        return x.rule(mode, least, greatest, bits, level, record) == 1 ? x.block(0, 0, 1) : -100;
    }

    static void give(CutBlocks x, int text, int... bytes) {
        x.remove(text, 0, x.size(text));
        for (int b : bytes) {
            x.add(text, b);
        }
    }

    static void hasBytes(String what, CutBlocks x, int text, int... bytes) {
        due(what + ": size", x.size(text), bytes.length);
        for (int i = 0; i < bytes.length; i++) {
            due(what + ": byte " + i, x.byteAt(text, i), bytes[i]);
        }
    }

    /** Every block has just so many bytes, but for the last one. */
    static void cutEvery(CutBlocks x, int bytes) {
        due("rule", x.rule(0, bytes, bytes, 9, 0, 1), 1);
    }

    /** An object whose text 1 is full. */
    static CutBlocks full() {
        CutBlocks x = new CutBlocks();
        fillUp(x, 1, 1500, 1, 256);
        return x;
    }

    static void keptIs(CutBlocks x, int snapshots, int blocks, int bytes, int uses) {
        due("kept(0)", x.kept(0), snapshots);
        due("kept(1)", x.kept(1), blocks);
        due("kept(2)", x.kept(2), bytes);
        due("kept(3)", x.kept(3), uses);
    }

    static void alikeIs(CutBlocks x, int text, int other, int... want) {
        for (int what = 0; what < 4; what++) {
            due("alike(" + text + ", " + other + ", " + what + ")", x.alike(text, other, what), want[what]);
        }
    }

    /** The bytes that fill gives, by numbers that do not wrap by themselves. */
    static int[] filled(int n, int seed, int span) {
        int[] bytes = new int[n];
        long x = unsigned(seed);
        for (int i = 0; i < n; i++) {
            x = (x * 1103515245L + 12345L) % (1L << 32);
            bytes[i] = (int) (x / 65536 % span);
        }
        return bytes;
    }

    /** A text of pairs of bytes, none of them twice, and none with 255. */
    static void giveDifferentPairs(CutBlocks x, int text, int pairs) {
        int seed = 0;
        while (!differ(seed, pairs)) {
            seed += 2;
        }
        fillUp(x, text, 2 * pairs, seed, 255);
    }

    private static boolean differ(int seed, int pairs) {
        int[] one = filled(400, seed, 255);
        int[] two = filled(400, seed + 1, 255);
        Set<Integer> seen = new HashSet<>();
        for (int i = 0; i < pairs; i++) {
            int[] from = i < 200 ? one : two;
            int at = 2 * (i % 200);
            if (!seen.add(256 * from[at] + from[at + 1])) {
                return false;
            }
        }
        return true;
    }
}
