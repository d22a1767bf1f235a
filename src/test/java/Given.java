/** Objects in the states that tests begin with. */
final class Given {
    private Given() {
    }

    /** The keys in the tree, each with itself as value. */
    static FirmStore tree(int... keys) {
        return putAll(new FirmStore(), keys);
    }

    static FirmStore putAll(FirmStore s, int... keys) {
        for (int k : keys) {
            Check.same("given: put " + k, s.put(0, k, k), 1);
        }
        return s;
    }

    /** The keys 10, 20, .. n * 10 in the tree, put in this order, with the values 1, 2, .. n. */
    static FirmStore rising(int n) {
        FirmStore s = new FirmStore();
        for (int i = 1; i <= n; i++) {
            Check.same("given: put " + 10 * i, s.put(0, 10 * i, i), 1);
        }
        return s;
    }

    /** The table gets so many full blocks, chain by chain: keys 0, 8, .. 40, then 1, 9, .. 41. */
    static FirmStore fillTable(FirmStore s, int blocks) {
        for (int b = 0; b < blocks; b++) {
            for (int i = 0; i < 6; i++) {
                Check.same("given: fill the table", s.put(1, keyOfTable(b, i), i), 1);
            }
        }
        return s;
    }

    static int keyOfTable(int b, int place) {
        return b % 8 + 8 * (b / 8 * 6 + place);
    }

    /** Down, with nothing in the memory but what was there: for a store with a block or gap left. */
    static FirmStore down(FirmStore s) {
        s.order(0, 0);
        Check.same("given: a cut", s.put(1, 999, 0), FirmStore.CUT);
        return s;
    }

    /** The put of this key into the tree is cut in place of its store n (from 0). */
    static FirmStore cutPut(FirmStore s, int n, int mask, int k) {
        s.order(n, mask);
        Check.same("given: a cut in put " + k, s.put(0, k, 7), FirmStore.CUT);
        return s;
    }

    /** The removal of this key from the tree is cut in place of its store n (from 0). */
    static FirmStore cutRemove(FirmStore s, int n, int k) {
        s.order(n, 0);
        Check.same("given: a cut in remove " + k, s.remove(0, k), FirmStore.CUT);
        return s;
    }
}
