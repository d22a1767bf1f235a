/** Each promise by hand: ordinary inputs, the edges that the document names, and wrong inputs. */
public final class PromisesTest {
    private static final int[] NO_PARTS = {-1, 2, Integer.MIN_VALUE, Integer.MAX_VALUE};
    private static final int[] NO_KEYS = {-1, 1000, Integer.MIN_VALUE, Integer.MAX_VALUE};

    public static void main(String[] args) {
        newObject();
        putTree();
        putSplits();
        putTable();
        putFull();
        putWrong();
        remove();
        removeWrong();
        get();
        from();
        order();
        orderMasks();
        recover();
        recoverWithoutTree();
        recoverHangs();
        size();
        free();
        height();
        word();
        stores();
        down();
        Check.end();
    }

    private static void newObject() {
        FirmStore s = new FirmStore();
        Check.isFalse("new: down", s.down());
        for (int a = 0; a <= 278; a++) {
            Check.same("new: word " + a, s.word(a), 0);
        }
        Check.same("new: stores", s.stores(), 0);
        Check.same("new: free", s.free(), 30);
        Check.same("new: height", s.height(), 0);
        Check.same("new: size of the tree", s.size(0), 0);
        Check.same("new: size of the table", s.size(1), 0);
        for (int k = 0; k < 12; k++) {
            Check.same("new: no cut is ordered", s.put(1, k, k), 1);
        }
        Check.isTrue("new: more stores than an order reaches", s.stores() > 61);
        Check.isFalse("new: still up", s.down());
    }

    private static void putTree() {
        FirmStore s = new FirmStore();
        Check.same("first put", s.put(0, 5, -1), 1);
        Check.same("root", s.word(0), 1);
        Words.block(s, 1, 0, 0, 0, Words.entry(5, -1));
        Check.same("stores of the first put", s.stores(), 10);
        Check.same("put at the end", s.put(0, 999, Integer.MIN_VALUE), 1);
        Check.same("one store", s.stores(), 11);
        Check.same("put at the front", s.put(0, 0, Integer.MAX_VALUE), 1);
        Check.same("three stores", s.stores(), 14);
        Check.same("put in the middle", s.put(0, 7, 0), 1);
        Check.same("two stores", s.stores(), 16);
        Words.block(s, 1, 0, 0, 0, Words.entry(0, Integer.MAX_VALUE), Words.entry(5, -1), Words.entry(7, 0),
                Words.entry(999, Integer.MIN_VALUE));
        Check.same("put over", s.put(0, 7, 8), 0);
        Check.same("one more store", s.stores(), 17);
        Check.same("the new value", s.get(0, 7), 8);
        Check.same("put over the same", s.put(0, 7, 8), 0);
        Check.same("a store of the same value counts", s.stores(), 18);
    }

    private static void putSplits() {
        FirmStore s = Given.rising(6);
        int before = s.stores();
        Check.same("put that splits", s.put(0, 25, 9), 1);
        Check.same("9 + 1 + 3, 9 + 1, 2 stores", s.stores() - before, 25);
        Check.same("root", s.word(0), 3);
        Words.block(s, 1, 0, 2, 0, Words.entry(10, 1), Words.entry(20, 2), Words.entry(25, 9), Words.entry(30, 3));
        Words.block(s, 2, 0, 0, 40, Words.entry(40, 4), Words.entry(50, 5), Words.entry(60, 6));
        Words.block(s, 3, 1, 0, 0, Words.entry(0, 1), Words.entry(40, 2));
        s.put(0, 70, 7);
        s.put(0, 80, 8);
        s.put(0, 90, 9);
        Check.same("put that splits the second", s.put(0, 100, 10), 1);
        Words.block(s, 3, 1, 0, 0, Words.entry(0, 1), Words.entry(40, 2), Words.entry(70, 4));
        Words.block(s, 2, 0, 4, 40, Words.entry(40, 4), Words.entry(50, 5), Words.entry(60, 6));
        Words.block(s, 4, 0, 0, 70, Words.entry(70, 7), Words.entry(80, 8), Words.entry(90, 9), Words.entry(100, 10));
        FirmStore high = Given.rising(22);
        Check.same("a third level", high.height(), 3);
        int root = (int) high.word(0);
        Check.same("level of the root", high.word(9 * root), 2);
        int left = (int) high.word(9 * root + 3);
        int right = (int) high.word(9 * root + 4);
        Check.same("next of the left", high.word(9 * left + 1), right);
        Check.same("low of the right", high.word(9 * right + 2), 100);
        for (int i = 1; i <= 22; i++) {
            Check.same("get " + 10 * i, high.get(0, 10 * i), i);
        }
        FirmStore emptied = Given.tree(1, 2, 3, 4, 5, 6, 7);
        emptied.remove(0, 1);
        emptied.remove(0, 2);
        emptied.remove(0, 3);
        Check.same("put into an empty row", emptied.put(0, 2, 2), 1);
        Check.same("at its first place", emptied.word(12), Words.entry(2, 2));
    }

    private static void putTable() {
        FirmStore s = new FirmStore();
        Check.same("first put", s.put(1, 999, -7), 1);
        Check.same("head of 999", s.word(8), 1);
        Words.block(s, 1, -1, 0, 0, Words.entry(999, -7));
        Check.same("stores", s.stores(), 10);
        for (int i = 1; i <= 5; i++) {
            Check.same("put", s.put(1, 999 - 8 * i, i), 1);
        }
        Check.same("one store each", s.stores(), 15);
        Check.same("a second block", s.put(1, 7, 70), 1);
        Words.block(s, 2, -1, 1, 0, Words.entry(7, 70));
        Check.same("head", s.word(8), 2);
        Check.same("over a value in the second block of the chain", s.put(1, 999, 5), 0);
        Check.same("in its place", s.word(12), Words.entry(999, 5));
        s.remove(1, 991);
        Check.same("a gap", s.word(13), 0);
        Check.same("the first gap of the first block", s.put(1, 15, 1), 1);
        Check.same("is in the newer block", s.word(22), Words.entry(15, 1));
        for (int i = 0; i < 4; i++) {
            s.put(1, 23 + 8 * i, 0);
        }
        Check.same("then the older block's gap", s.put(1, 991, 3), 1);
        Check.same("is taken", s.word(13), Words.entry(991, 3));
        Check.same("no third block yet", s.free(), 28);
        Check.same("key 0", s.put(1, 0, 0), 1);
        Check.same("head of 0", s.word(1), 3);
        Check.same("the tree is another part", s.put(0, 999, 1), 1);
        Check.same("with its own value", s.get(1, 999), 5);
    }

    private static void putFull() {
        FirmStore s = new FirmStore();
        Given.fillTable(s, 30);
        Check.same("no free block", s.free(), 0);
        int stores = s.stores();
        s.order(0, 0);
        Check.same("table full", s.put(1, 992, 1), FirmStore.FULL);
        Check.same("no tree, no block", s.put(0, 1, 1), FirmStore.FULL);
        Check.same("no store", s.stores(), stores);
        s.order(60, 0);
        Check.same("over a value", s.put(1, 0, 9), 0);
        s.remove(1, 8);
        Check.same("into a gap", s.put(1, 992, 1), 1);
        fullTree(29, 6, 0);
        fullTree(28, 6, 1);
        fullTree(27, 9, 0);
        fullTree(23, 21, 0);
        fullTree(21, 21, 2);
    }

    /** With so many blocks of the table and rising keys, the next rising key finds too few free. */
    private static void fullTree(int tableBlocks, int keys, int free) {
        FirmStore s = Given.rising(keys);
        Given.fillTable(s, tableBlocks);
        Check.same("free", s.free(), free);
        int stores = s.stores();
        s.order(0, 0);
        Check.same("tree full", s.put(0, 999, 1), FirmStore.FULL);
        Check.same("no store", s.stores(), stores);
        Check.isFalse("no cut", s.down());
        s.order(60, 0);
        Check.same("over a value", s.put(0, 10 * keys, 7), 0);
        s.remove(0, 10 * keys);
        Check.same("into a place", s.put(0, 999, 1), 1);
    }

    private static void putWrong() {
        for (FirmStore s : new FirmStore[] {Given.rising(3), Given.down(Given.rising(3))}) {
            int stores = s.stores();
            for (int t : NO_PARTS) {
                Check.throwsOf("put, part " + t, Check.ARGUMENT, () -> s.put(t, 1, 1));
            }
            for (int k : NO_KEYS) {
                Check.throwsOf("put, key " + k, Check.ARGUMENT, () -> s.put(0, k, 1));
                Check.throwsOf("put, key " + k, Check.ARGUMENT, () -> s.put(1, k, 1));
            }
            Check.same("nothing stored", s.stores(), stores);
        }
        FirmStore s = Given.down(Given.rising(3));
        Check.throwsOf("put while down", Check.STATE, () -> s.put(0, 10, 1));
        Check.throwsOf("put while down", Check.STATE, () -> s.put(1, 10, 1));
        Check.same("unchanged", s.get(0, 10), 1);
        FirmStore ordered = Given.rising(3);
        ordered.order(1, 0);
        Check.throwsOf("put", Check.ARGUMENT, () -> ordered.put(0, 1000, 1));
        Check.same("a call that throws uses up nothing of an order", ordered.put(0, 10, 5), 0);
        Check.same("which comes then", ordered.put(0, 10, 6), FirmStore.CUT);
        Check.same("in place of the store", ordered.get(0, 10), 5);
    }

    private static void remove() {
        FirmStore s = Given.rising(6);
        int before = s.stores();
        Check.same("remove the last of six", s.remove(0, 60), 1);
        Check.same("one store", s.stores() - before, 1);
        Check.same("remove the first", s.remove(0, 10), 1);
        Check.same("five stores", s.stores() - before, 6);
        Words.block(s, 1, 0, 0, 0, Words.entry(20, 2), Words.entry(30, 3), Words.entry(40, 4), Words.entry(50, 5));
        Check.throwsOf("gone", Check.NONE, () -> s.get(0, 10));
        Check.same("from", s.from(0), 20);
        FirmStore full = Given.rising(6);
        Check.same("remove the first of six", full.remove(0, 10), 1);
        Check.same("six stores", full.stores(), 21);
        Check.same("the last place", full.word(17), 0);
        FirmStore table = new FirmStore();
        table.put(1, 8, 1);
        table.put(1, 16, 2);
        Check.same("remove from the table", table.remove(1, 8), 1);
        Check.same("its place", table.word(12), 0);
        Check.same("the other stays", table.word(13), Words.entry(16, 2));
        Check.same("the block stays", table.free(), 29);
        Check.same("one store", table.stores(), 12);
        table.order(0, 0);
        Check.same("a cut", table.remove(1, 16), FirmStore.CUT);
        Check.same("not removed", table.get(1, 16), 2);
        FirmStore cut = Given.rising(4);
        cut.order(1, -1);
        Check.same("a cut", cut.remove(0, 20), FirmStore.CUT);
        Words.block(cut, 1, 0, 0, 0, Words.entry(10, 1), Words.entry(30, 3), Words.entry(30, 3), Words.entry(40, 4));
    }

    private static void removeWrong() {
        for (FirmStore s : new FirmStore[] {Given.rising(3), Given.down(Given.rising(3))}) {
            for (int t : NO_PARTS) {
                Check.throwsOf("remove, part " + t, Check.ARGUMENT, () -> s.remove(t, 10));
            }
            for (int k : NO_KEYS) {
                Check.throwsOf("remove, key " + k, Check.ARGUMENT, () -> s.remove(0, k));
                Check.throwsOf("remove, key " + k, Check.ARGUMENT, () -> s.remove(1, k));
            }
        }
        FirmStore s = Given.down(Given.rising(3));
        Check.throwsOf("remove while down", Check.STATE, () -> s.remove(0, 10));
        Check.throwsOf("remove while down, not there", Check.STATE, () -> s.remove(0, 11));
        Check.throwsOf("remove while down, not there", Check.STATE, () -> s.remove(1, 11));
        FirmStore up = Given.rising(3);
        int stores = up.stores();
        Check.throwsOf("remove, not there", Check.NONE, () -> up.remove(0, 11));
        Check.throwsOf("remove, not in the table", Check.NONE, () -> up.remove(1, 10));
        Check.throwsOf("remove, no tree", Check.NONE, () -> new FirmStore().remove(0, 0));
        Check.throwsOf("remove, no table", Check.NONE, () -> new FirmStore().remove(1, 0));
        Check.same("nothing stored", up.stores(), stores);
    }

    private static void get() {
        FirmStore s = Given.rising(9);
        s.put(0, 0, Integer.MIN_VALUE);
        s.put(0, 999, Integer.MAX_VALUE);
        s.put(1, 0, -1);
        s.put(1, 992, -5);
        Check.same("get", s.get(0, 0), Integer.MIN_VALUE);
        Check.same("get", s.get(0, 999), Integer.MAX_VALUE);
        Check.same("get", s.get(0, 50), 5);
        Check.same("get", s.get(1, 0), -1);
        Check.same("get", s.get(1, 992), -5);
        for (int k : new int[] {1, 9, 11, 49, 51, 998}) {
            Check.throwsOf("get " + k, Check.NONE, () -> s.get(0, k));
            Check.throwsOf("get " + k, Check.NONE, () -> s.get(1, k));
        }
        for (int t : NO_PARTS) {
            Check.throwsOf("get, part " + t, Check.ARGUMENT, () -> s.get(t, 0));
        }
        for (int k : NO_KEYS) {
            Check.throwsOf("get, key " + k, Check.ARGUMENT, () -> s.get(0, k));
            Check.throwsOf("get, key " + k, Check.ARGUMENT, () -> s.get(1, k));
        }
        Given.down(s);
        Check.same("get while down", s.get(0, 50), 5);
        Check.same("get while down", s.get(1, 992), -5);
        Check.throwsOf("get while down", Check.NONE, () -> s.get(0, 51));
        FirmStore cut = Given.rising(6);
        cut.order(10, 0);
        cut.put(0, 65, 7);
        Check.same("the new block is linked, the old one not yet cleared", cut.word(10), 2);
        Check.same("get", cut.get(0, 60), 6);
        Check.same("get", cut.get(0, 30), 3);
        Check.throwsOf("get", Check.NONE, () -> cut.get(0, 65));
    }

    private static void from() {
        FirmStore s = Given.rising(13);
        Check.same("from", s.from(0), 10);
        Check.same("from itself", s.from(10), 10);
        Check.same("from", s.from(11), 20);
        Check.same("from, in the next block", s.from(31), 40);
        Check.same("from the last", s.from(130), 130);
        Check.throwsOf("from behind the last", Check.NONE, () -> s.from(131));
        Check.throwsOf("from 999", Check.NONE, () -> s.from(999));
        for (int k : NO_KEYS) {
            Check.throwsOf("from " + k, Check.ARGUMENT, () -> s.from(k));
        }
        s.remove(0, 40);
        s.remove(0, 50);
        s.remove(0, 60);
        Check.same("from, over an empty block", s.from(31), 70);
        s.put(1, 35, 1);
        Check.same("the table does not count", s.from(31), 70);
        s.put(0, 999, 1);
        Check.same("from the greatest key", s.from(999), 999);
        Check.same("from while down", Given.down(s).from(131), 999);
        FirmStore cut = Given.rising(4);
        cut.order(2, 0);
        cut.put(0, 5, 1);
        Check.same("from, as a cut left it", cut.from(0), 10);
        Check.same("from, as a cut left it", cut.from(31), 40);
        Check.throwsOf("from, no tree", Check.NONE, () -> new FirmStore().from(0));
    }

    private static void order() {
        FirmStore s = Given.rising(2);
        Check.isFalse("order -1", s.order(-1, 0));
        Check.isFalse("order 61", s.order(61, 0));
        Check.isFalse("order least", s.order(Integer.MIN_VALUE, 0));
        Check.isFalse("order most", s.order(Integer.MAX_VALUE, 0));
        Check.same("none is ordered", s.put(0, 30, 3), 1);
        Check.isTrue("order 0", s.order(0, 0));
        Check.isFalse("order 61", s.order(61, 0));
        Check.same("is still ordered", s.put(0, 40, 4), FirmStore.CUT);
        Check.throwsOf("that store did not happen", Check.NONE, () -> s.get(0, 40));
        s.recover();
        Check.same("only one cut", s.put(0, 40, 4), 1);
        s.order(0, 0);
        Check.isTrue("another in its place", s.order(2, 0));
        Check.same("one", s.put(0, 40, 5), 0);
        Check.same("two", s.put(1, 1, 1), FirmStore.CUT);
        s.recover();
        Check.isTrue("order 60", s.order(60, 0));
        for (int i = 0; i < 60; i++) {
            Check.same("store " + i, s.put(0, 10, i), 0);
        }
        Check.same("the 61st", s.put(0, 10, 60), FirmStore.CUT);
        Check.same("stays away", s.get(0, 10), 59);
    }

    private static void orderMasks() {
        for (int mask = 0; mask < 512; mask++) {
            FirmStore s = new FirmStore();
            s.order(8, mask);
            Check.same("cut in making a block", s.put(1, 3, -1), FirmStore.CUT);
            long[] words = {-1, 0, 0, Words.entry(3, -1)};
            for (int i = 0; i < 9; i++) {
                boolean keeps = (mask & 1 << i) != 0 && i < words.length;
                Check.same("mask " + mask + ", word " + i, s.word(9 + i), keeps ? words[i] : 0);
            }
            Check.same("the block is free", s.free(), 30);
        }
        for (int mask = 0; mask < 4; mask++) {
            FirmStore s = Given.rising(6);
            s.order(12, mask);
            s.put(0, 35, 7);
            Check.same("oldest is place 5", s.word(17), (mask & 1) != 0 ? 0 : Words.entry(60, 6));
            Check.same("then place 4", s.word(16), (mask & 2) != 0 ? 0 : Words.entry(50, 5));
            Check.same("place 3 is not stored", s.word(15), Words.entry(40, 4));
            Check.same("fenced words stay", s.word(10), 2);
        }
        FirmStore again = Given.rising(6);
        again.order(8, 0);
        again.put(0, 70, 7);
        again.recover();
        again.put(0, 70, 7);
        again.order(0, -1);
        again.put(0, 75, 7);
        Check.same("nothing loose is left from before", again.get(0, 70), 7);
    }

    private static void recover() {
        FirmStore s = Given.rising(4);
        Check.throwsOf("recover while up", Check.STATE, () -> s.recover());
        s.order(2, 0);
        s.put(0, 5, 9);
        Words.row(s, 1, Words.tens(1, 2, 3, 3, 4));
        Check.same("recover", s.recover(), 2);
        Words.row(s, 1, Words.tens(1, 2, 3, 4));
        Check.isFalse("up", s.down());
        Check.throwsOf("recover again", Check.STATE, () -> s.recover());
        Given.down(s);
        s.order(5, 0);
        Check.same("nothing to do", s.recover(), 0);
        Check.isFalse("up", s.down());
        for (int i = 0; i < 5; i++) {
            s.put(0, 10, i);
        }
        Check.same("the order outlives a recovery", s.put(0, 10, 5), FirmStore.CUT);
        FirmStore wrong = Given.rising(6);
        wrong.order(12, 1);
        wrong.put(0, 35, 7);
        Words.block(wrong, 1, 0, 2, 0, Words.entry(10, 1), Words.entry(20, 2), Words.entry(30, 3),
                Words.entry(40, 4), Words.entry(50, 5));
        wrong.order(1, 1);
        Check.same("recovery cut off", wrong.recover(), FirmStore.CUT);
        Check.isTrue("still down", wrong.down());
        Check.same("the last wrong place came first", wrong.word(16), 0);
        Check.same("the other waits", wrong.word(15), Words.entry(40, 4));
        Check.same("1 + 9 + 1", wrong.recover(), 11);
        FirmStore gap = Given.rising(6);
        gap.order(12, 2);
        gap.put(0, 35, 7);
        Check.same("a 0 before a place that is not", gap.word(16), 0);
        Check.same("size", gap.size(0), 6);
        Check.same("2 + 9 + 1", gap.recover(), 12);
        Check.same("behind the 0", gap.word(17), 0);
    }

    private static void recoverWithoutTree() {
        FirmStore s = new FirmStore();
        s.put(1, 1, 1);
        s.order(3, 7);
        s.put(0, 1, 1);
        s.order(0, 0);
        Check.same("no tree, nothing to do", s.recover(), 0);
        Check.isFalse("up", s.down());
        Check.same("the table is as it was", s.get(1, 1), 1);
        Check.same("the order stands", s.put(1, 1, 2), FirmStore.CUT);
    }

    private static void recoverHangs() {
        FirmStore s = Given.rising(21);
        s.order(13, 0);
        Check.same("cut behind the split of level 0", s.put(0, 215, 1), FirmStore.CUT);
        Check.same("height", s.height(), 2);
        Check.same("free", s.free(), 22);
        s.order(13, 0);
        Check.same("cut behind the split of level 1", s.recover(), FirmStore.CUT);
        Check.same("height", s.height(), 2);
        Check.same("free", s.free(), 21);
        Check.same("size", s.size(0), 21);
        Check.same("one insert, then a new root", s.recover(), 1 + 10);
        Check.same("height", s.height(), 3);
        Check.same("free", s.free(), 20);
        Check.same("size", s.size(0), 21);
        for (int i = 1; i <= 21; i++) {
            Check.same("get " + 10 * i, s.get(0, 10 * i), i);
        }
        FirmStore whole = Given.rising(21);
        whole.order(13, 0);
        whole.put(0, 215, 1);
        Check.same("all in one recovery", whole.recover(), 13 + 10 + 1);
        Check.same("height", whole.height(), 3);
    }

    private static void size() {
        FirmStore s = Given.rising(22);
        s.put(1, 3, 3);
        Check.same("size", s.size(0), 22);
        Check.same("size", s.size(1), 1);
        s.put(0, 10, 9);
        s.put(1, 3, 9);
        Check.same("size", s.size(0), 22);
        Check.same("size", s.size(1), 1);
        s.remove(0, 10);
        s.remove(1, 3);
        Check.same("size", s.size(0), 21);
        Check.same("size", s.size(1), 0);
        for (int t : NO_PARTS) {
            Check.same("size, part " + t, s.size(t), FirmStore.FULL);
        }
        FirmStore cut = Given.rising(4);
        cut.order(2, 0);
        cut.put(0, 5, 9);
        Check.same("a key that stands twice counts once", cut.size(0), 4);
        FirmStore split = Given.rising(6);
        split.order(10, 0);
        split.put(0, 65, 7);
        Check.same("in two blocks too", split.size(0), 6);
        FirmStore stale = Given.rising(6);
        stale.order(8, -1);
        stale.put(0, 65, 7);
        Check.same("in a free block not at all", stale.size(0), 6);
        stale.recover();
        for (int i = 1; i <= 6; i++) {
            stale.remove(0, 10 * i);
        }
        Check.same("none", stale.size(0), 0);
    }

    private static void free() {
        FirmStore s = Given.rising(6);
        Check.same("free", s.free(), 29);
        s.order(9, -1);
        s.put(0, 65, 7);
        Check.same("a block that is made and not linked is free", s.free(), 29);
        s.recover();
        s.order(10, 0);
        s.put(0, 65, 7);
        Check.same("linked, it is not", s.free(), 28);
        s.recover();
        Check.same("a root", s.free(), 27);
        s.put(1, 1, 1);
        s.put(1, 2, 2);
        Check.same("two chains", s.free(), 25);
        FirmStore reused = new FirmStore();
        reused.order(9, -1);
        reused.put(1, 1, 1);
        reused.recover();
        reused.put(0, 5, 5);
        Check.same("the least free one is made", reused.word(0), 1);
        Words.block(reused, 1, 0, 0, 0, Words.entry(5, 5));
        reused.remove(0, 5);
        Check.same("an empty block is not free", reused.free(), 29);
    }

    private static void height() {
        FirmStore s = new FirmStore();
        s.put(1, 1, 1);
        Check.same("no tree", s.height(), 0);
        for (int i = 1; i <= 31; i++) {
            s.put(0, 10 * i, i);
            Check.same("height of " + i, s.height(), i < 7 ? 1 : i < 22 ? 2 : 3);
        }
        for (int i = 1; i <= 31; i++) {
            s.remove(0, 10 * i);
        }
        Check.same("an empty tree stays", s.height(), 3);
        FirmStore cut = Given.rising(6);
        cut.order(22, 0);
        cut.put(0, 65, 7);
        Check.same("the new root is not in yet", cut.height(), 1);
        cut.recover();
        Check.same("now it is", cut.height(), 2);
    }

    private static void word() {
        FirmStore s = Given.rising(6);
        for (int a : new int[] {-1, 279, 280, Integer.MIN_VALUE, Integer.MAX_VALUE}) {
            Check.same("word " + a, s.word(a), 0);
        }
        Check.same("word 0", s.word(0), 1);
        Check.same("word 17", s.word(17), Words.entry(60, 6));
        FirmStore full = new FirmStore();
        Given.fillTable(full, 30);
        Check.same("word 278", full.word(278), Words.entry(5 + 8 * 23, 5));
        Check.same("word 270", full.word(270), -1);
        Check.same("word 8", full.word(8), 24);
    }

    private static void stores() {
        FirmStore s = Given.rising(6);
        Check.same("stores", s.stores(), 15);
        s.order(12, 0);
        s.put(0, 65, 7);
        Check.same("also those that a cut took back, not the one it came for", s.stores(), 27);
        s.get(0, 10);
        s.from(0);
        s.size(0);
        s.free();
        s.word(0);
        Check.same("reading stores nothing", s.stores(), 27);
        s.order(1, 0);
        s.recover();
        Check.same("a recovery's", s.stores(), 28);
        s.recover();
        Check.same("3 + 10 more", s.stores(), 41);
    }

    private static void down() {
        FirmStore s = Given.rising(1);
        s.order(0, 0);
        Check.isFalse("ordered only", s.down());
        s.put(0, 20, 2);
        Check.isTrue("cut", s.down());
        s.order(0, 0);
        Check.isTrue("down", s.down());
        s.recover();
        Check.isFalse("up", s.down());
        s.remove(0, 10);
        Check.isTrue("cut again", s.down());
    }
}
