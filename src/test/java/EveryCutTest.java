import java.util.ArrayList;
import java.util.Arrays;
import java.util.HashSet;
import java.util.List;
import java.util.NoSuchElementException;
import java.util.Random;
import java.util.Set;
import java.util.TreeMap;
import java.util.function.Supplier;

/**
 * One call after a run of puts is cut at each of its stores, and each recovery from that at each of
 * its own: readers never lose a key, and the recovery leaves a tree that is whole.
 */
public final class EveryCutTest {
    private static final int ABSENT = Integer.MIN_VALUE;
    private static final int[] MASKS = {0, 1, 2, 3, 4, 5, 6, 7, -1};

    private final String name;
    private final int t;
    private final int[] keys;
    private final int tableBlocks;
    private final int key;
    private final boolean removes;
    private final TreeMap<Integer, Integer> before = new TreeMap<>();

    /** The keys are put into part t, each with itself as value, then the key is put or removed. */
    private EveryCutTest(String name, int t, int[] keys, int tableBlocks, int key, boolean removes) {
        this.name = name;
        this.t = t;
        this.keys = keys;
        this.tableBlocks = tableBlocks;
        this.key = key;
        this.removes = removes;
        for (int k : keys) {
            before.put(k, k);
        }
    }

    public static void main(String[] args) {
        put("the first key", 0, rising(0), 500);
        put("at the front", 0, rising(4), 5);
        put("in the middle", 0, rising(5), 25);
        put("at the end", 0, rising(3), 45);
        put("over a value", 0, rising(3), 20);
        put("a split below", 0, rising(6), 15);
        put("a split above", 0, rising(6), 65);
        put("a split under a root", 0, rising(9), 95);
        put("a second level that splits", 0, rising(21), 215);
        put("a split under three levels", 0, rising(24), 245);
        put("a second level that splits under three", 0, rising(30), 305);
        for (int p = 0; p < 6; p++) {
            remove("place " + p + " of six", 0, rising(6), 10 * (p + 1));
        }
        remove("the only one", 0, rising(1), 10);
        put("a new chain", 1, rising(3), 401);
        put("a place in a chain", 1, new int[] {8, 16, 24}, 32);
        put("a longer chain", 1, new int[] {8, 16, 24, 32, 40, 48}, 56);
        put("over a value of the table", 1, new int[] {8, 16}, 16);
        remove("from the table", 1, new int[] {8, 16}, 8);
        anyOrder();
        fills("with two blocks left", rising(6), 27, 65);
        fills("with three blocks left", rising(21), 20, 215);
        Check.end();
    }

    private static void put(String name, int t, int[] keys, int key) {
        new EveryCutTest(name, t, keys, 0, key, false).go();
    }

    private static void remove(String name, int t, int[] keys, int key) {
        new EveryCutTest(name, t, keys, 0, key, true).go();
    }

    private static void fills(String name, int[] keys, int tableBlocks, int key) {
        EveryCutTest test = new EveryCutTest(name, 0, keys, tableBlocks, key, false);
        test.go();
        FirmStore store = test.build();
        test.call(store);
        Check.same(name + ", free", store.free(), 0);
    }

    private static int[] rising(int n) {
        int[] keys = new int[n];
        for (int i = 0; i < n; i++) {
            keys[i] = 10 * (i + 1);
        }
        return keys;
    }

    private static void anyOrder() {
        Random random = new Random(7);
        for (int round = 0; round < 400; round++) {
            int[] keys = random.ints(20 + random.nextInt(50), 0, 1000).distinct().toArray();
            int key = random.nextInt(1000);
            EveryCutTest test = new EveryCutTest("random keys " + round, 0, keys, 0, key, false);
            if (test.costOfCall() > 20) {
                test.go();
            }
        }
    }

    private int costOfCall() {
        FirmStore store = build();
        int stores = store.stores();
        call(store);
        return store.stores() - stores;
    }

    private FirmStore build() {
        FirmStore store = new FirmStore();
        for (int b = 0; b < tableBlocks; b++) {
            for (int i = 0; i < 6; i++) {
                store.put(1, b % 8 + 8 * (b / 8 * 6 + i), i);
            }
        }
        for (int k : keys) {
            store.put(t, k, k);
        }
        return store;
    }

    private int call(FirmStore store) {
        return removes ? store.remove(t, key) : store.put(t, key, -key);
    }

    private void go() {
        int cost = costOfCall();
        Set<String> images = new HashSet<>();
        for (int n = 0; n < cost; n++) {
            for (int mask = 0; mask < 256; mask++) {
                if (images.add(image(cutOff(n, mask)))) {
                    afterCut(again(n, mask), "cut " + n + "/" + mask);
                }
            }
        }
        Set<String> nested = new HashSet<>();
        for (int n = 0; n < cost; n++) {
            for (int mask : MASKS) {
                if (nested.add(image(cutOff(n, mask)))) {
                    everyCutOfRecovery(n, mask);
                }
            }
        }
    }

    private FirmStore cutOff(int n, int mask) {
        FirmStore store = build();
        store.order(n, mask);
        Check.same(name + ", cut at " + n, call(store), FirmStore.CUT);
        return store;
    }

    /** The run up to the cut, as often as it is asked for: one object has only 512 calls. */
    private Supplier<FirmStore> again(int n, int mask) {
        return () -> cutOff(n, mask);
    }

    private Supplier<FirmStore> again(int n, int mask, int r, int m) {
        return () -> {
            FirmStore store = cutOff(n, mask);
            store.order(r, m);
            store.recover();
            return store;
        };
    }

    private void everyCutOfRecovery(int n, int mask) {
        Set<String> images = new HashSet<>();
        boolean through = false;
        for (int r = 0; r <= 60 && !through; r++) {
            for (int m : MASKS) {
                Supplier<FirmStore> again = again(n, mask, r, m);
                FirmStore store = again.get();
                through = !store.down();
                if (!through && images.add(image(store))) {
                    afterCut(again, "cut " + n + "/" + mask + ", recovery cut " + r + "/" + m);
                }
            }
        }
        Check.isTrue(name + ", a recovery ends", through);
    }

    private void afterCut(Supplier<FirmStore> again, String where) {
        String what = name + ", " + where;
        FirmStore store = again.get();
        Check.isTrue(what + ", down", store.down());
        int is = readable(store, what);
        int stores = store.stores();
        int answer = store.recover();
        Check.same(what + ", recover", answer, store.stores() - stores);
        Check.isFalse(what + ", up", store.down());
        Check.same(what + ", recovery changes no key", readable(store, what), is);
        callAgain(store, is, what);
        if (t == 0) {
            FirmStore recovered = again.get();
            recovered.recover();
            whole(recovered, what);
            FirmStore calledAgain = again.get();
            calledAgain.recover();
            callAgain(calledAgain, is, what);
            whole(calledAgain, what + ", again");
        }
    }

    private void callAgain(FirmStore store, int is, String what) {
        boolean wasThere = is != ABSENT;
        if (!removes) {
            Check.same(what + ", put again", call(store), wasThere ? 0 : 1);
            Check.same(what + ", get", store.get(t, key), -key);
        } else if (wasThere) {
            Check.same(what + ", remove again", call(store), 1);
        }
    }

    /** All keys but the one of the call are as before; answers what that one has. */
    private int readable(FirmStore store, String what) {
        int is = read(store, key);
        int was = before.containsKey(key) ? before.get(key) : ABSENT;
        int becomes = removes ? ABSENT : -key;
        Check.isTrue(what + ", old or new", is == was || is == becomes);
        TreeMap<Integer, Integer> due = new TreeMap<>(before);
        due.remove(key);
        if (is != ABSENT) {
            due.put(key, is);
        }
        for (int k : due.keySet()) {
            Check.same(what + ", get " + k, read(store, k), due.get(k));
        }
        Check.same(what + ", size", store.size(t), due.size());
        if (t == 0) {
            int k = 0;
            for (int next : due.keySet()) {
                Check.same(what + ", from " + k, store.from(k), next);
                k = next + 1;
            }
        }
        return is;
    }

    private int read(FirmStore store, int k) {
        try {
            return store.get(t, k);
        } catch (NoSuchElementException e) {
            return ABSENT;
        }
    }

    /** Every level's blocks, in a row, are the values of the next level's, and the rows rise. */
    private static void whole(FirmStore store, String what) {
        long[] words = words(store);
        int root = (int) words[0];
        if (root == 0) {
            return;
        }
        Check.same(what + ", next of the root", words[9 * root + 1], 0);
        int first = root;
        while (words[9 * first] > 0) {
            List<Integer> values = risingValues(words, first, what);
            first = (int) words[9 * first + 3];
            List<Integer> blocks = chain(words, first);
            Check.isTrue(what + ", " + values + " is " + blocks, values.equals(blocks));
        }
        risingValues(words, first, what);
    }

    private static List<Integer> chain(long[] words, int first) {
        List<Integer> blocks = new ArrayList<>();
        for (int b = first; b != 0 && blocks.size() < 30; b = (int) words[9 * b + 1]) {
            blocks.add(b);
        }
        return blocks;
    }

    private static List<Integer> risingValues(long[] words, int first, String what) {
        List<Integer> values = new ArrayList<>();
        long last = -1;
        for (int b : chain(words, first)) {
            boolean ended = false;
            for (int a = 9 * b + 3; a <= 9 * b + 8; a++) {
                long key = (words[a] >>> 32) - 1;
                ended |= key < 0;
                if (ended) {
                    Check.same(what + ", behind the row", words[a], 0);
                    continue;
                }
                Check.isTrue(what + ", rising", key > last && key >= words[9 * b + 2]);
                values.add((int) words[a]);
                last = key;
            }
        }
        return values;
    }

    private static long[] words(FirmStore store) {
        long[] words = new long[279];
        for (int a = 0; a < words.length; a++) {
            words[a] = store.word(a);
        }
        return words;
    }

    private static String image(FirmStore store) {
        return Arrays.toString(words(store));
    }
}
