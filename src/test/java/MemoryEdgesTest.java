/** The edges that the document's terms name for the memory, cuts, keys, entries and blocks. */
public final class MemoryEdgesTest {
    public static void main(String[] args) {
        Cases.runAll(MemoryEdgesTest.class);
    }

    static void terms_memory_all279WordsAre0AtFirst() {
        FirmStore s = new FirmStore();
        for (int a = 0; a <= 278; a++) {
            Check.same("word " + a, s.word(a), 0);
        }
    }

    static void terms_memory_word0IsTheRootAndWords1To8AreTheHeads() {
        FirmStore s = Given.tree(5);
        for (int k = 0; k < 8; k++) {
            s.put(1, k, k);
        }
        Check.same("root", s.word(0), 1);
        for (int k = 0; k < 8; k++) {
            Check.same("head of " + k, s.word(1 + k), 2 + k);
        }
    }

    static void terms_store_isLooseUntilTheFence() {
        FirmStore s = Given.cutPut(new FirmStore(), 8, 0, 5);
        Words.block(s, 1);
    }

    static void terms_store_isFirmBehindTheFence() {
        FirmStore s = Given.cutPut(new FirmStore(), 9, 0, 5);
        Words.block(s, 1, 0, 0, 0, Words.entry(5, 7));
    }

    static void terms_firmStore_outlivesTheCutBehindIt() {
        FirmStore s = Given.cutPut(Given.rising(2), 1, 0, 5);
        Words.row(s, 1, Words.tens(1, 2, 2));
    }

    static void terms_cut_comesInPlaceOfTheStore() {
        FirmStore s = Given.cutPut(Given.rising(1), 0, -1, 10);
        Check.same("the old value", s.get(0, 10), 1);
        Check.same("no store", s.stores(), 10);
    }

    static void terms_cut_comesOnlyWhenAStoreIsDue() {
        FirmStore s = Given.rising(6);
        s.order(0, 0);
        s.get(0, 10);
        s.from(0);
        s.size(0);
        s.free();
        s.height();
        s.word(0);
        s.stores();
        Check.throwsOf("put", Check.ARGUMENT, () -> s.put(0, -1, 0));
        Check.throwsOf("remove", Check.NONE, () -> s.remove(0, 11));
        Check.throwsOf("recover", Check.STATE, () -> s.recover());
        Check.isFalse("down", s.down());
        Check.same("put", s.put(0, 10, 2), FirmStore.CUT);
    }

    static void terms_cut_looseStoresKeepTheirNewValuesAsOrdered() {
        long[] made = {0, 0, 40, Words.entry(40, 4), Words.entry(50, 5), Words.entry(60, 6)};
        for (int mask = 0; mask < 256; mask++) {
            FirmStore s = Given.cutPut(Given.rising(6), 8, mask, 70);
            long[] due = new long[9];
            for (int i = 0; i < made.length; i++) {
                due[i] = (mask >> i & 1) == 1 ? made[i] : 0;
            }
            Words.block(s, 2, due);
        }
    }

    static void terms_cut_otherLooseWordsHaveTheirLastFirmValuesAgain() {
        FirmStore s = Given.cutPut(new FirmStore(), 9, 0, 5);
        s.recover();
        s.order(8, 0);
        Check.same("the same block for the table", s.put(1, 7, 70), FirmStore.CUT);
        Words.block(s, 1, 0, 0, 0, Words.entry(5, 7));
    }

    static void terms_cut_theStoresBehindTheLastFenceAreAllThatIsLoose() {
        FirmStore s = Given.cutPut(Given.rising(6), 12, 0, 70);
        Words.block(s, 2, 0, 0, 40, Words.entry(40, 4), Words.entry(50, 5), Words.entry(60, 6));
        Check.same("NEXT", s.word(10), 2);
        Words.row(s, 1, Words.tens(1, 2, 3, 4, 5, 6));
    }

    static void terms_cut_thenNoneIsLoose() {
        FirmStore s = Given.cutPut(new FirmStore(), 8, -1, 5);
        s.recover();
        Given.cutPut(s, 0, 0, 6);
        Words.block(s, 1, 0, 0, 0, Words.entry(5, 7));
    }

    static void terms_cut_thenNoneIsOrdered() {
        FirmStore s = Given.down(Given.rising(1));
        s.recover();
        for (int i = 0; i < 70; i++) {
            Check.same("put", s.put(0, 10, i), 0);
        }
    }

    static void terms_cut_theCallDoesNothingMore() {
        FirmStore s = Given.cutPut(Given.rising(6), 13, 0, 70);
        Check.same("stores", s.stores(), 15 + 13);
        Check.same("root", s.word(0), 1);
        Words.block(s, 1, 0, 2, 0, Words.entry(10, 1), Words.entry(20, 2), Words.entry(30, 3));
        Words.block(s, 2, 0, 0, 40, Words.entry(40, 4), Words.entry(50, 5), Words.entry(60, 6));
        Words.block(s, 3);
    }

    static void terms_cut_thenTheMemoryIsDown() {
        FirmStore s = Given.rising(1);
        s.order(0, 0);
        Check.isFalse("ordered", s.down());
        s.put(0, 20, 2);
        Check.isTrue("cut", s.down());
    }

    static void terms_keys_theLeastAndTheGreatest() {
        for (int t = 0; t <= 1; t++) {
            for (int k : new int[] {0, 999}) {
                FirmStore s = new FirmStore();
                Check.same("put", s.put(t, k, 5), 1);
                Check.same("get", s.get(t, k), 5);
                Check.same("size", s.size(t), 1);
                Check.same("remove", s.remove(t, k), 1);
                Check.same("size", s.size(t), 0);
            }
        }
    }

    static void terms_values_theLeastAndTheGreatestInt() {
        for (int t = 0; t <= 1; t++) {
            for (int v : new int[] {Integer.MIN_VALUE, -1, 0, 1, Integer.MAX_VALUE}) {
                FirmStore s = new FirmStore();
                Check.same("put", s.put(t, 5, v), 1);
                Check.same("get", s.get(t, 5), v);
            }
        }
    }

    static void terms_entry_ofTheLeastKey() {
        entry(0, 0, 4294967296L);
    }

    static void terms_entry_ofTheGreatestKey() {
        entry(999, 0, 4294967296000L);
    }

    static void terms_entry_ofANegativeValue() {
        entry(5, -1, 30064771071L);
        entry(0, -2, 8589934590L);
    }

    static void terms_entry_ofTheLeastInt() {
        entry(5, Integer.MIN_VALUE, 27917287424L);
    }

    static void terms_entry_ofTheGreatestInt() {
        entry(5, Integer.MAX_VALUE, 27917287423L);
    }

    static void terms_entry_ofTheGreatestKeyAndValueMinus1() {
        entry(999, -1, 4299262263295L);
    }

    private static void entry(int k, int v, long due) {
        for (int t = 0; t <= 1; t++) {
            FirmStore s = new FirmStore();
            s.put(t, k, v);
            Check.same("entry of " + k + ", " + v, s.word(12), due);
        }
    }

    static void terms_entry_aWordThatIs0IsNone() {
        for (int t = 0; t <= 1; t++) {
            int part = t;
            FirmStore s = new FirmStore();
            s.put(t, 8, 0);
            Check.same("one with the value 0", s.size(t), 1);
            for (int k : new int[] {0, 16, 992}) {
                Check.throwsOf("get " + k, Check.NONE, () -> s.get(part, k));
            }
            s.remove(t, 8);
            Check.same("the word", s.word(12), 0);
            Check.same("none", s.size(t), 0);
            Check.throwsOf("get 8", Check.NONE, () -> s.get(part, 8));
        }
    }

    static void terms_block_theFirstBeginsAtWord9() {
        FirmStore s = Given.fillTable(new FirmStore(), 1);
        Words.block(s, 1, -1, 0, 0, Words.entry(0, 0), Words.entry(8, 1), Words.entry(16, 2),
                Words.entry(24, 3), Words.entry(32, 4), Words.entry(40, 5));
        Check.same("word 9", s.word(9), -1);
        Check.same("word 17", s.word(17), Words.entry(40, 5));
        Check.same("word 18", s.word(18), 0);
    }

    static void terms_block_the30thEndsAtWord278() {
        FirmStore s = Given.fillTable(new FirmStore(), 30);
        Check.same("word 269", s.word(269), Words.entry(Given.keyOfTable(28, 5), 5));
        Check.same("word 270", s.word(270), -1);
        Check.same("word 271", s.word(271), 22);
        Check.same("word 272", s.word(272), 0);
        for (int p = 0; p < 6; p++) {
            Check.same("place " + p, s.word(273 + p), Words.entry(Given.keyOfTable(29, p), p));
        }
    }

    static void terms_row_endsBeforeTheFirstPlaceThatIs0() {
        FirmStore s = Given.rising(3);
        s.remove(0, 30);
        Check.same("size", s.size(0), 2);
        Check.throwsOf("from", Check.NONE, () -> s.from(21));
        Check.same("the first place that is 0 is the next to be filled", s.put(0, 25, 9), 1);
        Check.same("place 2", s.word(14), Words.entry(25, 9));
    }

    static void terms_row_withA0InItsFirstPlaceIsEmpty() {
        FirmStore s = Given.rising(1);
        s.remove(0, 10);
        Check.same("size", s.size(0), 0);
        Check.throwsOf("get", Check.NONE, () -> s.get(0, 10));
        Check.throwsOf("from", Check.NONE, () -> s.from(0));
    }

    static void terms_row_ofSixHasNo0AndEndsWithTheLastPlace() {
        FirmStore s = Given.rising(6);
        Check.same("size", s.size(0), 6);
        Check.same("get", s.get(0, 60), 6);
        Check.same("from", s.from(51), 60);
        Check.throwsOf("get", Check.NONE, () -> s.get(0, 61));
        Check.throwsOf("from", Check.NONE, () -> s.from(61));
    }

    static void terms_row_placesBehindA0AreNotInIt() {
        FirmStore s = Given.cutPut(Given.rising(6), 12, 2, 70);
        Words.row(s, 1, Words.entry(10, 1), Words.entry(20, 2), Words.entry(30, 3), Words.entry(40, 4), 0,
                Words.entry(60, 6));
        Check.same("size", s.size(0), 6);
        Check.same("from", s.from(51), 60);
        Check.same("get", s.get(0, 60), 6);
    }

    static void terms_make_nineStoresTheLowestWordFirst() {
        for (int n = 0; n <= 8; n++) {
            FirmStore table = Given.fillTable(new FirmStore(), 1);
            table.order(n, -1);
            Check.same("put", table.put(1, 48, 9), FirmStore.CUT);
            firstWordsOnly(table, n, -1, 1, 0, Words.entry(48, 9));
            FirmStore tree = Given.cutPut(Given.rising(6), n, -1, 70);
            firstWordsOnly(tree, n, 0, 0, 40, Words.entry(40, 4), Words.entry(50, 5), Words.entry(60, 6));
        }
    }

    private static void firstWordsOnly(FirmStore s, int n, long... words) {
        for (int i = 0; i < 9; i++) {
            Check.same("word " + i + " after " + n, s.word(18 + i), i < n && i < words.length ? words[i] : 0);
        }
    }

    static void terms_make_nineStoresAndThenAFence() {
        FirmStore s = new FirmStore();
        s.put(1, 3, 3);
        Check.same("nine, and one for the head", s.stores(), 10);
        s.order(9, 0);
        Check.same("put", s.put(1, 4, 4), FirmStore.CUT);
        Words.block(s, 2, -1, 0, 0, Words.entry(4, 4));
        Check.same("head", s.word(5), 0);
    }

    static void terms_make_takesTheFreeBlockWithTheLeastNumber() {
        FirmStore s = Given.cutPut(new FirmStore(), 9, 0, 5);
        s.recover();
        s.put(1, 0, 1);
        Check.same("the one that was made and not linked", s.word(1), 1);
        s.put(1, 1, 1);
        Check.same("then the second", s.word(2), 2);
    }

    static void terms_make_givesAllNineWordsNewValues() {
        FirmStore s = Given.cutPut(Given.rising(6), 9, 0, 70);
        s.recover();
        s.put(1, 8, 1);
        Words.block(s, 2, -1, 0, 0, Words.entry(8, 1));
    }
}
