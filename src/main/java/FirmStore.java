import java.util.NoSuchElementException;

/**
 * A sorted tree and a table in a memory whose words survive a power cut, but for those that were
 * written and not yet fenced. The promises are told in DOC.md; the words used here are its words.
 */
public final class FirmStore {
    public static final int FULL = -1;
    public static final int CUT = -2;

    private static final int TREE = 0;
    private static final int TABLE = 1;
    private static final int KEYS = 1000;
    private static final int LATEST_CUT = 60;

    private final Memory memory;
    private final Blocks blocks;
    private final Tree tree;
    private final Table table;

    public FirmStore() {
        memory = new Memory();
        blocks = new Blocks(memory);
        tree = new Tree(memory, blocks);
        table = new Table(memory, blocks);
    }

    public int put(int t, int k, int v) throws IllegalArgumentException, IllegalStateException {
        if (!isPart(t) || !isKey(k)) {
            throw new IllegalArgumentException();
        }
        if (memory.isDown) {
            throw new IllegalStateException();
        }
        return t == TREE ? tree.enter(k, v) : table.enter(k, v);
    }

    public int remove(int t, int k)
            throws IllegalArgumentException, IllegalStateException, NoSuchElementException {
        if (!isPart(t) || !isKey(k)) {
            throw new IllegalArgumentException();
        }
        if (memory.isDown) {
            throw new IllegalStateException();
        }
        int a = addressOf(t, k);
        if (a == 0) {
            throw new NoSuchElementException();
        }
        boolean through = t == TREE ? tree.dropAt(a) : memory.firmStore(a, 0);
        return through ? 1 : CUT;
    }

    public int get(int t, int k) throws IllegalArgumentException, NoSuchElementException {
        if (!isPart(t) || !isKey(k)) {
            throw new IllegalArgumentException();
        }
        int a = addressOf(t, k);
        if (a == 0) {
            throw new NoSuchElementException();
        }
        return valueOf(memory.wordAt(a));
    }

    public int from(int k) throws IllegalArgumentException, NoSuchElementException {
        if (!isKey(k)) {
            throw new IllegalArgumentException();
        }
        int least = tree.leastKeyFrom(k);
        if (least == KEYS) {
            throw new NoSuchElementException();
        }
        return least;
    }

    public boolean order(int n, int mask) {
        if (n < 0 || n > LATEST_CUT) {
            return false;
        }
        memory.orderCut(n, mask);
        return true;
    }

    public int recover() throws IllegalStateException {
        if (!memory.isDown) {
            throw new IllegalStateException();
        }
        int before = memory.storeCount;
        if (!tree.putRight() || !tree.hangStrays()) {
            return CUT;
        }
        memory.isDown = false;
        return memory.storeCount - before;
    }

    public int size(int t) {
        if (!isPart(t)) {
            return FULL;
        }
        return t == TREE ? tree.countKeys() : table.countKeys();
    }

    public int free() {
        return blocks.countFree();
    }

    public int height() {
        return tree.topLevel() + 1;
    }

    public long word(int a) {
        return memory.wordAt(a);
    }

    public int stores() {
        return memory.storeCount;
    }

    public boolean down() {
        return memory.isDown;
    }

    private int addressOf(int t, int k) {
        return t == TREE ? tree.seek(k) : table.seek(k);
    }

    private static boolean isPart(int t) {
        return t == TREE || t == TABLE;
    }

    private static boolean isKey(int k) {
        return k >= 0 && k < KEYS;
    }

    private static long entryOf(int k, int v) {
        return (k + 1L) << 32 | v & 0xFFFFFFFFL;
    }

    private static int keyOf(long entry) {
        return (int) (entry >>> 32) - 1;
    }

    private static int valueOf(long entry) {
        return (int) entry;
    }

    /**
     * The words, and what a cut needs to know of the stores since the last fence. A method that
     * stores answers false when a cut came; whoever called it must then do nothing more.
     */
    private static final class Memory {
        private static final int WORDS = 279;
        private static final int NO_CUT = -1;
        // Nothing stores more words between two fences than the making of a block.
        private static final int MOST_LOOSE = 9;

        private final long[] words = new long[WORDS];
        private final int[] looseAt = new int[MOST_LOOSE];
        private final long[] firmWas = new long[MOST_LOOSE];
        private int looseCount = 0;
        private int storesBeforeCut = NO_CUT;
        private int cutMask = 0;
        int storeCount = 0;
        boolean isDown = false;

        long wordAt(int a) {
            return a >= 0 && a < WORDS ? words[a] : 0;
        }

        void orderCut(int n, int mask) {
            storesBeforeCut = n;
            cutMask = mask;
        }

        boolean store(int a, long w) {
            if (storesBeforeCut == 0) {
                cutPower();
                return false;
            }
            if (storesBeforeCut > 0) {
                storesBeforeCut--;
            }
            if (a >= 0 && a < WORDS && looseCount < MOST_LOOSE) {
                looseAt[looseCount] = a;
                firmWas[looseCount] = words[a];
                looseCount++;
                words[a] = w;
            }
            storeCount++;
            return true;
        }

        void fence() {
            looseCount = 0;
        }

        boolean firmStore(int a, long w) {
            if (!store(a, w)) {
                return false;
            }
            fence();
            return true;
        }

        private void cutPower() {
            for (int i = 0; i < looseCount; i++) {
                if ((cutMask >>> i & 1) == 0) {
                    words[looseAt[i]] = firmWas[i];
                }
            }
            looseCount = 0;
            storesBeforeCut = NO_CUT;
            isDown = true;
        }
    }

    /** How blocks lie in the memory. Block 0 is none, for a NEXT, the root or a head of 0. */
    private static final class Blocks {
        private static final int BLOCKS = 30;
        private static final int BLOCK_WORDS = 9;
        private static final int PLACES = 6;
        private static final int NEXT = 1;
        private static final int LOW = 2;
        private static final int FIRST_PLACE = 3;
        private static final int ROOT_AND_HEADS = 9;
        // A set of blocks is an int, block b its bit b; bit 0 stands for no block.
        private static final int ALL = (1 << BLOCKS + 1) - 2;

        private final Memory memory;

        Blocks(Memory memory) {
            this.memory = memory;
        }

        int blockOf(long w) {
            return w > 0 && w <= BLOCKS ? (int) w : 0;
        }

        int blockIn(int a) {
            return blockOf(memory.wordAt(a));
        }

        int levelOf(int b) {
            return (int) memory.wordAt(b * BLOCK_WORDS);
        }

        int nextOf(int b) {
            return blockOf(memory.wordAt(b * BLOCK_WORDS + NEXT));
        }

        int lowOf(int b) {
            return (int) memory.wordAt(b * BLOCK_WORDS + LOW);
        }

        int addressOfPlace(int b, int p) {
            return b * BLOCK_WORDS + FIRST_PLACE + p;
        }

        long entryAt(int b, int p) {
            return memory.wordAt(b * BLOCK_WORDS + FIRST_PLACE + p);
        }

        int childAt(int b, int p) {
            return blockOf(valueOf(memory.wordAt(b * BLOCK_WORDS + FIRST_PLACE + p)));
        }

        int rowLength(int b) {
            for (int p = 0; p < PLACES; p++) {
                if (memory.wordAt(b * BLOCK_WORDS + FIRST_PLACE + p) == 0) {
                    return p;
                }
            }
            return PLACES;
        }

        boolean isFull(int b) {
            return rowLength(b) == PLACES;
        }

        boolean linkNext(int b, int next) {
            return memory.firmStore(b * BLOCK_WORDS + NEXT, next);
        }

        /** A 0 tells that a cut came: whoever calls this has seen that enough blocks are free. */
        int make(int level, int next, int low, long first, long second, long third) {
            int free = freeSet();
            int b = Integer.numberOfTrailingZeros(free);
            int a = b * BLOCK_WORDS;
            boolean through = free != 0
                    && memory.store(a, level)
                    && memory.store(a + NEXT, next)
                    && memory.store(a + LOW, low)
                    && memory.store(a + FIRST_PLACE, first)
                    && memory.store(a + FIRST_PLACE + 1, second)
                    && memory.store(a + FIRST_PLACE + 2, third)
                    && memory.store(a + FIRST_PLACE + 3, 0)
                    && memory.store(a + FIRST_PLACE + 4, 0)
                    && memory.store(a + FIRST_PLACE + 5, 0);
            if (!through) {
                return 0;
            }
            memory.fence();
            return b;
        }

        int countFree() {
            return Integer.bitCount(freeSet());
        }

        private int freeSet() {
            int seen = 0;
            for (int a = 0; a < ROOT_AND_HEADS; a++) {
                seen |= 1 << blockIn(a);
            }
            int open = seen & ALL;
            for (int n = 0; n < BLOCKS && open != 0; n++) {
                int b = Integer.numberOfTrailingZeros(open);
                int links = 1 << nextOf(b);
                int children = levelOf(b) > 0 ? rowLength(b) : 0;
                for (int p = 0; p < children; p++) {
                    links |= 1 << childAt(b, p);
                }
                int fresh = links & ALL & ~seen;
                seen |= fresh;
                open = open & ~(1 << b) | fresh;
            }
            return ALL & ~seen;
        }
    }

    /** The tree whose root's block stands in word 0. */
    private static final class Tree {
        private static final int ROOT = 0;
        private static final int SPLIT_PLACE = 3;

        private final Memory memory;
        private final Blocks blocks;

        Tree(Memory memory, Blocks blocks) {
            this.memory = memory;
            this.blocks = blocks;
        }

        /** It is -1 without a tree, so that whatever goes over all levels then does nothing. */
        int topLevel() {
            int root = blocks.blockIn(ROOT);
            return root == 0 ? -1 : blocks.levelOf(root);
        }

        /** The address of the key's place; word 0 is no place, so a 0 tells that there is none. */
        int seek(int k) {
            int b = find(k, 0);
            int p = countLesser(b, k);
            boolean isThere = b != 0 && p < blocks.rowLength(b) && keyAt(b, p) == k;
            return isThere ? blocks.addressOfPlace(b, p) : 0;
        }

        /** KEYS, which is no key, tells that there is none. */
        int leastKeyFrom(int k) {
            int b = find(k, 0);
            for (int n = 0; n < Blocks.BLOCKS && b != 0; n++) {
                int p = countLesser(b, k);
                if (p < blocks.rowLength(b) && keyAt(b, p) < endOf(b)) {
                    return keyAt(b, p);
                }
                b = blocks.nextOf(b);
            }
            return KEYS;
        }

        int countKeys() {
            int count = 0;
            int b = firstOf(0);
            for (int n = 0; n < Blocks.BLOCKS && b != 0; n++) {
                int end = endOf(b);
                int length = blocks.rowLength(b);
                int last = -1;
                for (int p = 0; p < length && keyAt(b, p) < end; p++) {
                    // A cut may leave an entry twice, side by side.
                    count += keyAt(b, p) == last ? 0 : 1;
                    last = keyAt(b, p);
                }
                b = blocks.nextOf(b);
            }
            return count;
        }

        int enter(int k, int v) {
            long entry = entryOf(k, v);
            if (blocks.blockIn(ROOT) == 0) {
                return plant(entry);
            }
            int a = seek(k);
            if (a != 0) {
                return memory.firmStore(a, entry) ? 0 : CUT;
            }
            int b = find(k, 0);
            if (blocks.isFull(b)) {
                if (blocks.countFree() < blocksToSplit(b)) {
                    return FULL;
                }
                int y = split(b);
                if (y == 0 || !hang(y, 1)) {
                    return CUT;
                }
                b = find(k, 0);
            }
            return insert(b, entry) ? 1 : CUT;
        }

        boolean dropAt(int a) {
            int b = a / Blocks.BLOCK_WORDS;
            return dropPlace(b, a - blocks.addressOfPlace(b, 0));
        }

        /** All rows must be right before any block is hung, since that inserts into them. */
        boolean putRight() {
            int top = topLevel();
            for (int level = 0; level < Blocks.BLOCKS && level <= top; level++) {
                int b = firstOf(level);
                for (int n = 0; n < Blocks.BLOCKS && b != 0; n++) {
                    if (!clearWrong(b) || !dropTwins(b)) {
                        return false;
                    }
                    b = blocks.nextOf(b);
                }
            }
            return true;
        }

        /** The top level is asked for again and again, since hanging may raise it. */
        boolean hangStrays() {
            for (int level = 0; level < Blocks.BLOCKS && level <= topLevel(); level++) {
                int b = blocks.nextOf(firstOf(level));
                for (int n = 0; n < Blocks.BLOCKS && b != 0; n++) {
                    if (!isHung(b, level + 1) && !hang(b, level + 1)) {
                        return false;
                    }
                    b = blocks.nextOf(b);
                }
            }
            return true;
        }

        private int plant(long entry) {
            if (blocks.countFree() == 0) {
                return FULL;
            }
            int b = blocks.make(0, 0, 0, entry, 0, 0);
            return b != 0 && memory.firmStore(ROOT, b) ? 1 : CUT;
        }

        private int find(int k, int level) {
            int b = blocks.blockIn(ROOT);
            for (int n = 0; n < Blocks.BLOCKS && b != 0; n++) {
                int next = blocks.nextOf(b);
                if (next != 0 && blocks.lowOf(next) <= k) {
                    b = next;
                } else if (blocks.levelOf(b) <= level) {
                    return b;
                } else {
                    b = childFor(b, k);
                }
            }
            return 0;
        }

        private int childFor(int b, int k) {
            int n = blocks.rowLength(b);
            for (int p = n - 1; p >= 0; p--) {
                if (keyAt(b, p) <= k) {
                    return blocks.childAt(b, p);
                }
            }
            return 0;
        }

        private int firstOf(int level) {
            int b = blocks.blockIn(ROOT);
            for (int n = 0; n < Blocks.BLOCKS && b != 0 && blocks.levelOf(b) > level; n++) {
                b = blocks.childAt(b, 0);
            }
            return b;
        }

        private int countLesser(int b, int k) {
            int n = blocks.rowLength(b);
            for (int p = 0; p < n; p++) {
                if (keyAt(b, p) >= k) {
                    return p;
                }
            }
            return n;
        }

        private int keyAt(int b, int p) {
            return keyOf(blocks.entryAt(b, p));
        }

        /**
         * A split that was cut off leaves entries in a row that the next block has too. A search
         * goes on to the next block for them, so here they count for nothing.
         */
        private int endOf(int b) {
            int next = blocks.nextOf(b);
            return next == 0 ? KEYS : blocks.lowOf(next);
        }

        private boolean isHung(int y, int level) {
            if (level > topLevel()) {
                return false;
            }
            int b = firstOf(level);
            for (int n = 0; n < Blocks.BLOCKS && b != 0; n++) {
                int length = blocks.rowLength(b);
                for (int p = 0; p < length; p++) {
                    if (blocks.childAt(b, p) == y) {
                        return true;
                    }
                }
                b = blocks.nextOf(b);
            }
            return false;
        }

        /** Counts the blocks to make for every level that splits, before anything is stored. */
        private int blocksToSplit(int b) {
            int top = topLevel();
            int count = 1;
            int full = b;
            for (int level = 1; level < Blocks.BLOCKS && level <= top; level++) {
                full = find(keyAt(full, SPLIT_PLACE), level);
                if (!blocks.isFull(full)) {
                    return count;
                }
                count++;
            }
            return count + 1;
        }

        private int split(int x) {
            long middle = blocks.entryAt(x, SPLIT_PLACE);
            int y = blocks.make(blocks.levelOf(x), blocks.nextOf(x), keyOf(middle), middle,
                    blocks.entryAt(x, SPLIT_PLACE + 1), blocks.entryAt(x, SPLIT_PLACE + 2));
            if (y == 0 || !blocks.linkNext(x, y)) {
                return 0;
            }
            for (int p = Blocks.PLACES - 1; p >= SPLIT_PLACE; p--) {
                if (!memory.store(blocks.addressOfPlace(x, p), 0)) {
                    return 0;
                }
            }
            memory.fence();
            return y;
        }

        private boolean hang(int y, int level) {
            // Every level has a block of its own, so none lies this high.
            if (level > Blocks.BLOCKS) {
                return false;
            }
            if (topLevel() < level) {
                return raise(y, level);
            }
            int low = blocks.lowOf(y);
            int x = find(low, level);
            if (blocks.isFull(x)) {
                int z = split(x);
                if (z == 0 || !hang(z, level + 1)) {
                    return false;
                }
                x = find(low, level);
            }
            return insert(x, entryOf(low, y));
        }

        private boolean raise(int y, int level) {
            int z = blocks.blockIn(ROOT);
            int low = blocks.lowOf(z);
            int b = blocks.make(level, 0, low, entryOf(low, z), entryOf(blocks.lowOf(y), y), 0);
            return b != 0 && memory.firmStore(ROOT, b);
        }

        private boolean insert(int b, long entry) {
            int p = countLesser(b, keyOf(entry));
            for (int i = blocks.rowLength(b); i > p; i--) {
                long moved = blocks.entryAt(b, i - 1);
                if (!memory.firmStore(blocks.addressOfPlace(b, i), moved)) {
                    return false;
                }
            }
            return memory.firmStore(blocks.addressOfPlace(b, p), entry);
        }

        private boolean dropPlace(int b, int p) {
            for (int i = p; i < Blocks.PLACES; i++) {
                long moved = i + 1 < Blocks.PLACES ? blocks.entryAt(b, i + 1) : 0;
                if (!memory.firmStore(blocks.addressOfPlace(b, i), moved)) {
                    return false;
                }
                if (moved == 0) {
                    return true;
                }
            }
            return true;
        }

        private boolean clearWrong(int b) {
            // The last place first: no place that is cleared changes what is wrong before it.
            for (int p = Blocks.PLACES - 1; p >= 0; p--) {
                if (isWrong(b, p) && !memory.store(blocks.addressOfPlace(b, p), 0)) {
                    return false;
                }
            }
            memory.fence();
            return true;
        }

        private boolean isWrong(int b, int p) {
            long entry = blocks.entryAt(b, p);
            if (entry == 0) {
                return false;
            }
            int next = blocks.nextOf(b);
            return blocks.rowLength(b) < p || next != 0 && keyOf(entry) >= blocks.lowOf(next);
        }

        private boolean dropTwins(int b) {
            for (int n = 0; n < Blocks.PLACES; n++) {
                int p = secondTwin(b);
                if (p == 0) {
                    return true;
                }
                if (!dropPlace(b, p)) {
                    return false;
                }
            }
            return true;
        }

        /** Place 0 is never the second of two, so a 0 tells that there are none. */
        private int secondTwin(int b) {
            int n = blocks.rowLength(b);
            for (int p = 1; p < n; p++) {
                if (keyAt(b, p) == keyAt(b, p - 1)) {
                    return p;
                }
            }
            return 0;
        }
    }

    /** The table whose eight chains begin in the heads. */
    private static final class Table {
        private static final int FIRST_HEAD = 1;
        private static final int HEADS = 8;
        private static final int LEVEL = -1;
        private static final int GAP = -1;

        private final Memory memory;
        private final Blocks blocks;

        Table(Memory memory, Blocks blocks) {
            this.memory = memory;
            this.blocks = blocks;
        }

        int seek(int k) {
            return seekInChain(headOf(k), k);
        }

        int countKeys() {
            int count = 0;
            for (int head = FIRST_HEAD; head < FIRST_HEAD + HEADS; head++) {
                int b = blocks.blockIn(head);
                for (int n = 0; n < Blocks.BLOCKS && b != 0; n++) {
                    count += countEntries(b);
                    b = blocks.nextOf(b);
                }
            }
            return count;
        }

        int enter(int k, int v) {
            long entry = entryOf(k, v);
            int a = seek(k);
            if (a != 0) {
                return memory.firmStore(a, entry) ? 0 : CUT;
            }
            int head = headOf(k);
            int gap = seekInChain(head, GAP);
            if (gap != 0) {
                return memory.firmStore(gap, entry) ? 1 : CUT;
            }
            if (blocks.countFree() == 0) {
                return FULL;
            }
            int b = blocks.make(LEVEL, blocks.blockIn(head), 0, entry, 0, 0);
            return b != 0 && memory.firmStore(head, b) ? 1 : CUT;
        }

        private int headOf(int k) {
            return FIRST_HEAD + k % HEADS;
        }

        /** A place that is 0 reads as one with the key GAP, so gaps are sought like keys. */
        private int seekInChain(int head, int k) {
            int b = blocks.blockIn(head);
            for (int n = 0; n < Blocks.BLOCKS && b != 0; n++) {
                for (int p = 0; p < Blocks.PLACES; p++) {
                    if (keyOf(blocks.entryAt(b, p)) == k) {
                        return blocks.addressOfPlace(b, p);
                    }
                }
                b = blocks.nextOf(b);
            }
            return 0;
        }

        private int countEntries(int b) {
            int count = 0;
            for (int p = 0; p < Blocks.PLACES; p++) {
                if (blocks.entryAt(b, p) != 0) {
                    count++;
                }
            }
            return count;
        }
    }
}
