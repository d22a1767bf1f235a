/** The edges that the document's terms name for the table. */
public final class TableEdgesTest {
    public static void main(String[] args) {
        Cases.runAll(TableEdgesTest.class);
    }

    static void terms_table_theHeadOfAKeyIsWord1AndTheRestBy8() {
        headOf(0, 1);
        headOf(7, 8);
        headOf(8, 1);
        headOf(9, 2);
        headOf(992, 1);
        headOf(999, 8);
    }

    private static void headOf(int k, int head) {
        FirmStore s = new FirmStore();
        s.put(1, k, 5);
        for (int a = 0; a <= 8; a++) {
            Check.same("key " + k + ", word " + a, s.word(a), a == head ? 1 : 0);
        }
    }

    static void terms_table_aHeadThatIs0HasNoChain() {
        FirmStore s = new FirmStore();
        s.put(1, 0, 5);
        Check.throwsOf("get", Check.NONE, () -> s.get(1, 1));
        Check.throwsOf("remove", Check.NONE, () -> s.remove(1, 1));
        Check.same("put", s.put(1, 1, 6), 1);
        Words.block(s, 2, -1, 0, 0, Words.entry(1, 6));
    }

    static void terms_table_theSixthKeyOfAChainTakesTheLastPlace() {
        FirmStore s = Given.fillTable(new FirmStore(), 1);
        Check.same("stores", s.stores(), 10 + 5);
        Check.same("place 5", s.word(17), Words.entry(40, 5));
        Check.same("free", s.free(), 29);
    }

    static void terms_table_theSeventhKeyOfAChainMakesABlockBeforeTheOther() {
        FirmStore s = Given.fillTable(new FirmStore(), 1);
        Check.same("put", s.put(1, 48, 9), 1);
        Check.same("stores", s.stores(), 15 + 10);
        Words.block(s, 2, -1, 1, 0, Words.entry(48, 9));
        Check.same("head", s.word(1), 2);
    }

    static void terms_table_theHeadComesByAFirmStoreBehindItsBlock() {
        FirmStore s = Given.fillTable(new FirmStore(), 1);
        s.order(9, -1);
        Check.same("put", s.put(1, 48, 9), FirmStore.CUT);
        Words.block(s, 2, -1, 1, 0, Words.entry(48, 9));
        Check.same("head", s.word(1), 1);
        Check.throwsOf("get", Check.NONE, () -> s.get(1, 48));
        s.recover();
        Check.same("put", s.put(1, 48, 8), 1);
        s.order(0, 0);
        Check.same("put", s.put(1, 48, 7), FirmStore.CUT);
        Check.same("head", s.word(1), 2);
    }

    static void terms_table_theFirst0OfABlockIsTaken() {
        FirmStore s = Given.fillTable(new FirmStore(), 1);
        s.remove(1, 24);
        s.remove(1, 8);
        Check.same("put", s.put(1, 48, 9), 1);
        Check.same("place 1", s.word(13), Words.entry(48, 9));
        Check.same("place 3", s.word(15), 0);
    }

    static void terms_table_theFirstBlockOfTheChainWithA0IsTaken() {
        FirmStore s = Given.fillTable(new FirmStore(), 1);
        s.put(1, 48, 6);
        s.remove(1, 0);
        for (int i = 1; i <= 5; i++) {
            s.put(1, 48 + 8 * i, i);
            Check.same("place " + i + " of the newer block", s.word(21 + i), Words.entry(48 + 8 * i, i));
        }
        Check.same("the older block's gap is left for last", s.word(12), 0);
        Check.same("put", s.put(1, 96, 9), 1);
        Check.same("place 0 of the older block", s.word(12), Words.entry(96, 9));
        Check.same("free", s.free(), 28);
    }

    static void terms_table_aKeyThatIsThereKeepsItsPlaceBehindA0() {
        FirmStore s = Given.fillTable(new FirmStore(), 1);
        s.remove(1, 0);
        Check.same("put", s.put(1, 40, 9), 0);
        Check.same("place 0", s.word(12), 0);
        Check.same("place 5", s.word(17), Words.entry(40, 9));
        Check.same("size", s.size(1), 5);
    }

    static void terms_table_aKeyThatIsThereKeepsItsPlaceInALaterBlock() {
        FirmStore s = Given.fillTable(new FirmStore(), 1);
        s.put(1, 48, 6);
        Check.same("put", s.put(1, 40, 9), 0);
        Check.same("place 5 of the older block", s.word(17), Words.entry(40, 9));
        Words.row(s, 2, Words.entry(48, 6));
    }

    static void terms_table_removeLeavesA0AndTheOthersWhereTheyAre() {
        FirmStore s = Given.fillTable(new FirmStore(), 1);
        Check.same("remove", s.remove(1, 16), 1);
        Check.same("stores", s.stores(), 15 + 1);
        Words.row(s, 1, Words.entry(0, 0), Words.entry(8, 1), 0, Words.entry(24, 3), Words.entry(32, 4),
                Words.entry(40, 5));
        Check.same("get behind the 0", s.get(1, 40), 5);
    }

    static void terms_table_aBlockThatIsEmptiedStaysInItsChain() {
        FirmStore s = new FirmStore();
        s.put(1, 0, 5);
        s.remove(1, 0);
        Check.same("free", s.free(), 29);
        Check.same("put", s.put(1, 8, 6), 1);
        Check.same("its first place", s.word(12), Words.entry(8, 6));
        Check.same("free", s.free(), 29);
    }

    static void terms_table_fullWhenNoBlockIsFree() {
        FirmStore s = Given.fillTable(new FirmStore(), 30);
        for (int k = 992; k <= 999; k++) {
            Check.same("put " + k, s.put(1, k, 9), FirmStore.FULL);
        }
    }

    static void terms_table_fullForAKeyWithoutAChain() {
        FirmStore s = new FirmStore();
        for (int b = 0; b < 34; b++) {
            for (int i = 0; i < 6 && b % 8 != 7; i++) {
                s.put(1, Given.keyOfTable(b, i), i);
            }
        }
        Check.same("free", s.free(), 0);
        Check.same("head", s.word(8), 0);
        Check.same("put", s.put(1, 7, 9), FirmStore.FULL);
        Check.same("head", s.word(8), 0);
    }

    static void terms_table_notFullWithOneBlockLeft() {
        FirmStore s = Given.fillTable(new FirmStore(), 29);
        Check.same("put", s.put(1, 992, 9), 1);
        Check.same("head", s.word(1), 30);
        Check.same("free", s.free(), 0);
    }

    static void terms_table_fullDoesNothing() {
        FirmStore s = Given.fillTable(new FirmStore(), 30);
        Check.same("put", s.put(1, 992, 9), FirmStore.FULL);
        Words.alike(s, Given.fillTable(new FirmStore(), 30));
    }

    static void terms_table_fullLeavesAnOrderedCut() {
        FirmStore s = Given.fillTable(new FirmStore(), 30);
        s.order(0, 0);
        Check.same("put", s.put(1, 992, 9), FirmStore.FULL);
        Check.isFalse("down", s.down());
        Check.same("put over", s.put(1, 0, 9), FirmStore.CUT);
    }

    static void terms_table_notFullForAKeyThatIsThere() {
        FirmStore s = Given.fillTable(new FirmStore(), 30);
        Check.same("put", s.put(1, 0, 9), 0);
        Check.same("get", s.get(1, 0), 9);
    }

    static void terms_table_notFullWhenItsChainHasA0() {
        FirmStore s = Given.fillTable(new FirmStore(), 30);
        s.remove(1, 8);
        Check.same("another chain", s.put(1, 993, 9), FirmStore.FULL);
        Check.same("its own", s.put(1, 992, 9), 1);
        Check.same("then no more", s.put(1, 984, 9), FirmStore.FULL);
    }

    static void terms_table_itsBlocksAreNotThoseOfTheTree() {
        FirmStore s = new FirmStore();
        s.put(0, 8, 1);
        s.put(1, 8, 2);
        Check.same("get", s.get(0, 8), 1);
        Check.same("get", s.get(1, 8), 2);
        Check.same("remove", s.remove(0, 8), 1);
        Check.same("get", s.get(1, 8), 2);
        Check.throwsOf("get", Check.NONE, () -> s.get(0, 8));
    }
}
