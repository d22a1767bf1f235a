import java.util.ArrayList;
import java.util.LinkedHashMap;
import java.util.List;
import java.util.Map;
import java.util.NoSuchElementException;
import java.util.TreeSet;

/**
 * The document once more, slow and plain, to hold the class against. It shares nothing with the
 * class: a cut is an exception here, the memory keeps its firm values beside the new ones, keys are
 * counted by reading all thousand, and what a put would make is seen by doing it on a wider copy.
 */
final class Model {
    private static final class CutCame extends RuntimeException {
        private static final long serialVersionUID = 1L;
    }

    private static final class NoBlock extends RuntimeException {
        private static final long serialVersionUID = 1L;
    }

    private final int lastBlock;
    private final long[] now;
    private final Map<Integer, Long> looseWas = new LinkedHashMap<>();
    private int ordered = -1;
    private int mask;
    private int stores;
    private int made;
    private boolean down;

    Model() {
        this(30);
    }

    private Model(int lastBlock) {
        this.lastBlock = lastBlock;
        now = new long[9 * (lastBlock + 1)];
    }

    // ---- the memory

    private void store(int a, long w) {
        if (ordered == 0) {
            cut();
        }
        ordered = ordered < 0 ? -1 : ordered - 1;
        if (looseWas.containsKey(a)) {
            throw new AssertionError("a loose word is stored again");
        }
        looseWas.put(a, now[a]);
        now[a] = w;
        stores++;
    }

    private void cut() {
        int i = 0;
        for (Map.Entry<Integer, Long> loose : looseWas.entrySet()) {
            boolean keeps = (mask & 1 << i) != 0;
            if (!keeps) {
                now[loose.getKey()] = loose.getValue();
            }
            i++;
        }
        looseWas.clear();
        ordered = -1;
        down = true;
        throw new CutCame();
    }

    private void fence() {
        looseWas.clear();
    }

    private void firm(int a, long w) {
        store(a, w);
        fence();
    }

    // ---- entries and blocks

    private static long entry(long k, int v) {
        return (k + 1) * 4294967296L + Integer.toUnsignedLong(v);
    }

    private static long key(long entry) {
        return entry / 4294967296L - 1;
    }

    private static int value(long entry) {
        return (int) (entry % 4294967296L);
    }

    private long level(int b) {
        return now[9 * b];
    }

    private int next(int b) {
        return (int) now[9 * b + 1];
    }

    private long low(int b) {
        return now[9 * b + 2];
    }

    private List<Long> row(int b) {
        List<Long> row = new ArrayList<>();
        for (int i = 0; i < 6 && now[9 * b + 3 + i] != 0; i++) {
            row.add(now[9 * b + 3 + i]);
        }
        return row;
    }

    private TreeSet<Integer> freeBlocks() {
        TreeSet<Integer> free = new TreeSet<>();
        for (int b = 1; b <= lastBlock; b++) {
            free.add(b);
        }
        for (int a = 0; a <= 8; a++) {
            reach((int) now[a], free);
        }
        return free;
    }

    private void reach(int b, TreeSet<Integer> free) {
        if (b == 0 || !free.remove(b)) {
            return;
        }
        reach(next(b), free);
        if (level(b) > 0) {
            for (long e : row(b)) {
                reach(value(e), free);
            }
        }
    }

    private int make(long level, int next, long low, long... entries) {
        TreeSet<Integer> free = freeBlocks();
        if (free.isEmpty()) {
            throw new NoBlock();
        }
        int b = free.first();
        long[] words = new long[9];
        words[0] = level;
        words[1] = next;
        words[2] = low;
        System.arraycopy(entries, 0, words, 3, entries.length);
        for (int i = 0; i < 9; i++) {
            store(9 * b + i, words[i]);
        }
        fence();
        made++;
        return b;
    }

    // ---- the tree

    private int root() {
        return (int) now[0];
    }

    private int find(long k, long level) {
        int b = root();
        while (true) {
            while (next(b) != 0 && low(next(b)) <= k) {
                b = next(b);
            }
            if (level(b) == level) {
                return b;
            }
            int child = -1;
            for (long e : row(b)) {
                if (key(e) <= k) {
                    child = value(e);
                }
            }
            b = child;
        }
    }

    private void insert(int b, long entry) {
        List<Long> row = row(b);
        int p = 0;
        for (long e : row) {
            if (key(e) < key(entry)) {
                p++;
            }
        }
        for (int i = row.size(); i >= p + 1; i--) {
            firm(9 * b + 3 + i, now[9 * b + 3 + i - 1]);
        }
        firm(9 * b + 3 + p, entry);
    }

    private void drop(int b, int p) {
        long moved;
        do {
            moved = p == 5 ? 0 : now[9 * b + 3 + p + 1];
            firm(9 * b + 3 + p, moved);
            p++;
        } while (moved != 0);
    }

    private boolean allFull(int b) {
        return row(b).size() == 6;
    }

    private int split(int x) {
        int a = 9 * x;
        int y = make(level(x), next(x), key(now[a + 6]), now[a + 6], now[a + 7], now[a + 8]);
        firm(a + 1, y);
        store(a + 8, 0);
        store(a + 7, 0);
        store(a + 6, 0);
        fence();
        return y;
    }

    private void hang(int y, long level) {
        int z = root();
        if (level(z) < level) {
            int b = make(level, 0, low(z), entry(low(z), z), entry(low(y), y));
            firm(0, b);
            return;
        }
        int x = find(low(y), level);
        if (allFull(x)) {
            hang(split(x), level + 1);
            x = find(low(y), level);
        }
        insert(x, entry(low(y), y));
    }

    private void putTree(int k, int v) {
        if (root() == 0) {
            firm(0, make(0, 0, 0, entry(k, v)));
            return;
        }
        int b = find(k, 0);
        int at = placeIn(b, k);
        if (at >= 0) {
            firm(9 * b + 3 + at, entry(k, v));
            return;
        }
        if (allFull(b)) {
            hang(split(b), 1);
            b = find(k, 0);
        }
        insert(b, entry(k, v));
    }

    private int wouldMake(int k, int v) {
        Model wide = new Model(60);
        System.arraycopy(now, 0, wide.now, 0, now.length);
        wide.putTree(k, v);
        return wide.made;
    }

    private int placeIn(int b, int k) {
        List<Long> row = row(b);
        for (int i = 0; i < row.size(); i++) {
            if (key(row.get(i)) == k) {
                return i;
            }
        }
        return -1;
    }

    // ---- the table

    private List<Integer> chain(int k) {
        List<Integer> chain = new ArrayList<>();
        for (int b = (int) now[1 + k % 8]; b != 0; b = next(b)) {
            chain.add(b);
        }
        return chain;
    }

    private int tablePlace(int k, boolean zero) {
        for (int b : chain(k)) {
            for (int a = 9 * b + 3; a <= 9 * b + 8; a++) {
                if (zero ? now[a] == 0 : now[a] != 0 && key(now[a]) == k) {
                    return a;
                }
            }
        }
        return -1;
    }

    private void putTable(int k, int v) {
        int a = tablePlace(k, false);
        if (a < 0) {
            a = tablePlace(k, true);
        }
        if (a >= 0) {
            firm(a, entry(k, v));
        } else {
            int head = 1 + k % 8;
            firm(head, make(-1, (int) now[head], 0, entry(k, v)));
        }
    }

    // ---- reading

    private Integer read(int t, int k) {
        if (t == 1) {
            int a = tablePlace(k, false);
            return a < 0 ? null : Integer.valueOf(value(now[a]));
        }
        if (root() == 0) {
            return null;
        }
        int b = find(k, 0);
        int at = placeIn(b, k);
        return at < 0 ? null : Integer.valueOf(value(row(b).get(at)));
    }

    // ---- recovery

    private List<Integer> blocksOf(long level) {
        int b = root();
        while (level(b) > level) {
            b = value(row(b).get(0));
        }
        List<Integer> blocks = new ArrayList<>();
        if (level(b) == level) {
            for (; b != 0; b = next(b)) {
                blocks.add(b);
            }
        }
        return blocks;
    }

    private void putRight(int b) {
        List<Integer> wrong = new ArrayList<>();
        boolean zeroBefore = false;
        for (int a = 9 * b + 3; a <= 9 * b + 8; a++) {
            if (now[a] == 0) {
                zeroBefore = true;
            } else if (zeroBefore || next(b) != 0 && key(now[a]) >= low(next(b))) {
                wrong.add(0, a);
            }
        }
        for (int a : wrong) {
            store(a, 0);
        }
        fence();
        int i = 1;
        while (i < row(b).size()) {
            List<Long> row = row(b);
            if (key(row.get(i - 1)) == key(row.get(i))) {
                drop(b, i);
                i = 1;
            } else {
                i++;
            }
        }
    }

    private void hangAll(long level) {
        List<Integer> blocks = blocksOf(level);
        for (int b : blocks.subList(1, blocks.size())) {
            boolean isValue = false;
            for (int upper : blocksOf(level + 1)) {
                for (long e : row(upper)) {
                    isValue |= value(e) == b;
                }
            }
            if (!isValue) {
                hang(b, level + 1);
            }
        }
    }

    // ---- the face

    private static void checkArguments(boolean right) {
        if (!right) {
            throw new IllegalArgumentException();
        }
    }

    private void checkUp() {
        if (down) {
            throw new IllegalStateException();
        }
    }

    int put(int t, int k, int v) {
        checkArguments((t == 0 || t == 1) && k >= 0 && k <= 999);
        checkUp();
        boolean wasThere = read(t, k) != null;
        int free = freeBlocks().size();
        boolean tooFew = t == 0 ? free < wouldMake(k, v)
                : !wasThere && tablePlace(k, true) < 0 && free == 0;
        if (tooFew) {
            return -1;
        }
        try {
            if (t == 0) {
                putTree(k, v);
            } else {
                putTable(k, v);
            }
        } catch (CutCame e) {
            return -2;
        }
        return wasThere ? 0 : 1;
    }

    int remove(int t, int k) {
        checkArguments((t == 0 || t == 1) && k >= 0 && k <= 999);
        checkUp();
        if (read(t, k) == null) {
            throw new NoSuchElementException();
        }
        try {
            if (t == 0) {
                int b = find(k, 0);
                drop(b, placeIn(b, k));
            } else {
                firm(tablePlace(k, false), 0);
            }
        } catch (CutCame e) {
            return -2;
        }
        return 1;
    }

    int get(int t, int k) {
        checkArguments((t == 0 || t == 1) && k >= 0 && k <= 999);
        Integer v = read(t, k);
        if (v == null) {
            throw new NoSuchElementException();
        }
        return v;
    }

    int from(int k) {
        checkArguments(k >= 0 && k <= 999);
        for (int i = k; i <= 999; i++) {
            if (read(0, i) != null) {
                return i;
            }
        }
        throw new NoSuchElementException();
    }

    boolean order(int n, int newMask) {
        if (n < 0 || n > 60) {
            return false;
        }
        ordered = n;
        mask = newMask;
        return true;
    }

    int recover() {
        if (!down) {
            throw new IllegalStateException();
        }
        int before = stores;
        try {
            if (root() != 0) {
                for (long level = 0; level <= level(root()); level++) {
                    for (int b : blocksOf(level)) {
                        putRight(b);
                    }
                }
                for (long level = 0; level <= level(root()); level++) {
                    hangAll(level);
                }
            }
        } catch (CutCame e) {
            return -2;
        }
        down = false;
        return stores - before;
    }

    int size(int t) {
        if (t != 0 && t != 1) {
            return -1;
        }
        int n = 0;
        for (int k = 0; k <= 999; k++) {
            n += read(t, k) == null ? 0 : 1;
        }
        return n;
    }

    int free() {
        return freeBlocks().size();
    }

    int height() {
        return root() == 0 ? 0 : (int) level(root()) + 1;
    }

    long word(int a) {
        return a < 0 || a > 278 ? 0 : now[a];
    }

    int stores() {
        return stores;
    }

    boolean down() {
        return down;
    }
}
