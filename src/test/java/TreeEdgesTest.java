/** The edges that the document's terms name for the tree: find, insert, drop, split, hang, FULL. */
public final class TreeEdgesTest {
    public static void main(String[] args) {
        Cases.runAll(TreeEdgesTest.class);
    }

    // ---- the root, and finding

    static void terms_tree_noneWhileTheRootIs0() {
        FirmStore s = Given.cutPut(new FirmStore(), 9, -1, 5);
        Check.same("root", s.word(0), 0);
        Check.same("height", s.height(), 0);
        Check.same("size", s.size(0), 0);
        Check.same("free", s.free(), 30);
        Check.throwsOf("get", Check.NONE, () -> s.get(0, 5));
        Check.throwsOf("from", Check.NONE, () -> s.from(0));
        s.recover();
        Check.throwsOf("remove", Check.NONE, () -> s.remove(0, 5));
        Check.same("a first put once more", s.put(0, 6, 6), 1);
        Words.block(s, 1, 0, 0, 0, Words.entry(6, 6));
        Check.same("root", s.word(0), 1);
    }

    static void terms_tree_staysWhenItsLastKeyIsRemoved() {
        FirmStore s = Given.rising(1);
        s.remove(0, 10);
        Check.same("root", s.word(0), 1);
        Check.same("height", s.height(), 1);
        Check.same("put", s.put(0, 20, 2), 1);
        Check.same("no second block", s.free(), 29);
    }

    static void terms_tree_theFirstPutMakesABlockAndThenTheRoot() {
        FirmStore s = Given.tree(999);
        Words.block(s, 1, 0, 0, 0, Words.entry(999, 999));
        Check.same("root", s.word(0), 1);
        Check.same("stores", s.stores(), 10);
    }

    static void terms_find_goesToNextWhenItsLowIsTheKey() {
        FirmStore s = Given.cutPut(Given.rising(6), 13, 0, 70);
        Check.same("one level", s.height(), 1);
        Check.same("LOW of NEXT", s.word(20), 40);
        Check.same("get", s.get(0, 40), 4);
        Check.same("from", s.from(40), 40);
    }

    static void terms_find_staysWhenTheLowOfNextIsAboveTheKey() {
        FirmStore s = Given.cutPut(Given.rising(6), 13, 0, 70);
        Check.same("get", s.get(0, 30), 3);
        Check.throwsOf("get", Check.NONE, () -> s.get(0, 39));
        Check.same("from", s.from(39), 40);
    }

    static void terms_find_staysWhenNextIs0() {
        FirmStore s = Given.rising(7);
        Check.same("put", s.put(0, 999, 9), 1);
        Check.same("in the last block", s.word(25), Words.entry(999, 9));
    }

    static void terms_find_theLastEntryWhoseKeyIsNotAboveTheKey() {
        FirmStore s = Given.rising(13);
        Words.row(s, 3, Words.entry(0, 1), Words.entry(40, 2), Words.entry(70, 4), Words.entry(100, 5));
        s.put(0, 69, 9);
        s.put(0, 71, 9);
        s.put(0, 70, 9);
        Words.row(s, 2, Words.entry(40, 4), Words.entry(50, 5), Words.entry(60, 6), Words.entry(69, 9));
        Words.row(s, 4, Words.entry(70, 9), Words.entry(71, 9), Words.entry(80, 8), Words.entry(90, 9));
    }

    static void terms_find_theLeastKeyIsInTheFirstBlockAndTheGreatestInTheLast() {
        FirmStore s = Given.rising(13);
        s.put(0, 0, 9);
        s.put(0, 999, 9);
        Check.same("first place of the first block", s.word(12), Words.entry(0, 9));
        Check.same("fifth place of the last block", s.word(52), Words.entry(999, 9));
    }

    // ---- inserting and dropping

    static void terms_insert_atPlace0MovesAll() {
        FirmStore s = Given.rising(2);
        Check.same("put", s.put(0, 5, 9), 1);
        Check.same("stores", s.stores(), 11 + 3);
        Words.row(s, 1, Words.entry(5, 9), Words.entry(10, 1), Words.entry(20, 2));
    }

    static void terms_insert_behindTheLastEntryMovesNone() {
        FirmStore s = Given.rising(2);
        Check.same("put", s.put(0, 25, 9), 1);
        Check.same("stores", s.stores(), 11 + 1);
        Words.row(s, 1, Words.entry(10, 1), Words.entry(20, 2), Words.entry(25, 9));
    }

    static void terms_insert_intoAnEmptyRow() {
        FirmStore s = Given.rising(1);
        s.remove(0, 10);
        Check.same("put", s.put(0, 7, 9), 1);
        Check.same("stores", s.stores(), 10 + 1 + 1);
        Words.row(s, 1, Words.entry(7, 9));
    }

    static void terms_insert_upToTheLastPlace() {
        FirmStore s = Given.rising(5);
        Check.same("put", s.put(0, 5, 9), 1);
        Check.same("stores", s.stores(), 14 + 6);
        Words.row(s, 1, Words.entry(5, 9), Words.entry(10, 1), Words.entry(20, 2), Words.entry(30, 3),
                Words.entry(40, 4), Words.entry(50, 5));
        Check.same("no second block", s.free(), 29);
    }

    static void terms_insert_fromTheEndDownByFirmStores() {
        Words.row(Given.cutPut(Given.rising(3), 0, 0, 15), 1, Words.tens(1, 2, 3));
        Words.row(Given.cutPut(Given.rising(3), 1, 0, 15), 1, Words.tens(1, 2, 3, 3));
        Words.row(Given.cutPut(Given.rising(3), 2, 0, 15), 1, Words.tens(1, 2, 2, 3));
    }

    static void terms_drop_ofTheFirstOfSix() {
        FirmStore s = Given.rising(6);
        Check.same("remove", s.remove(0, 10), 1);
        Check.same("stores", s.stores(), 15 + 6);
        Words.row(s, 1, Words.tens(2, 3, 4, 5, 6));
    }

    static void terms_drop_ofTheLastOfSixStoresTheZeroBehindTheLastPlace() {
        FirmStore s = Given.rising(6);
        Check.same("remove", s.remove(0, 60), 1);
        Check.same("stores", s.stores(), 15 + 1);
        Words.row(s, 1, Words.tens(1, 2, 3, 4, 5));
        Check.same("the next word is not moved in", s.word(17), 0);
    }

    static void terms_drop_ofTheLastOfSixBeforeAnotherBlock() {
        FirmStore s = Given.rising(6);
        s.put(1, 0, 5);
        Check.same("the word behind the last place", s.word(18), -1);
        s.remove(0, 60);
        Check.same("the last place", s.word(17), 0);
    }

    static void terms_drop_ofTheOnlyOne() {
        FirmStore s = Given.rising(1);
        Check.same("remove", s.remove(0, 10), 1);
        Check.same("stores", s.stores(), 10 + 1);
        Words.row(s, 1);
    }

    static void terms_drop_endsWhenA0WasStored() {
        FirmStore s = Given.rising(3);
        Check.same("remove", s.remove(0, 20), 1);
        Check.same("stores", s.stores(), 12 + 2);
        Words.row(s, 1, Words.tens(1, 3));
    }

    static void terms_drop_fromItsPlaceUpByFirmStores() {
        Words.row(Given.cutRemove(Given.rising(4), 0, 20), 1, Words.tens(1, 2, 3, 4));
        Words.row(Given.cutRemove(Given.rising(4), 1, 20), 1, Words.tens(1, 3, 3, 4));
        Words.row(Given.cutRemove(Given.rising(4), 2, 20), 1, Words.tens(1, 3, 4, 4));
    }

    // ---- splitting

    static void terms_split_notWithFivePlacesFull() {
        FirmStore s = Given.rising(5);
        Check.same("put", s.put(0, 15, 9), 1);
        Check.same("free", s.free(), 29);
        Check.same("height", s.height(), 1);
    }

    static void terms_split_withAllSixPlacesFull() {
        FirmStore s = Given.rising(6);
        Check.same("put", s.put(0, 15, 9), 1);
        Check.same("free", s.free(), 27);
        Check.same("9 + 1 + 3 to split, 9 + 1 to hang, 3 to insert", s.stores(), 15 + 26);
        Words.block(s, 1, 0, 2, 0, Words.entry(10, 1), Words.entry(15, 9), Words.entry(20, 2), Words.entry(30, 3));
        Words.block(s, 2, 0, 0, 40, Words.entry(40, 4), Words.entry(50, 5), Words.entry(60, 6));
    }

    static void terms_split_notForAKeyThatIsThere() {
        FirmStore s = Given.rising(6);
        Check.same("put", s.put(0, 60, 9), 0);
        Check.same("stores", s.stores(), 15 + 1);
        Check.same("free", s.free(), 29);
    }

    static void terms_split_aKeyJustBelowTheLowGoesToTheOldBlock() {
        FirmStore s = Given.rising(6);
        Check.same("put", s.put(0, 39, 9), 1);
        Words.row(s, 1, Words.entry(10, 1), Words.entry(20, 2), Words.entry(30, 3), Words.entry(39, 9));
        Words.row(s, 2, Words.tens(4, 5, 6));
    }

    static void terms_split_aKeyJustAboveTheLowGoesToTheNewBlock() {
        FirmStore s = Given.rising(6);
        Check.same("put", s.put(0, 41, 9), 1);
        Words.row(s, 1, Words.tens(1, 2, 3));
        Words.row(s, 2, Words.entry(40, 4), Words.entry(41, 9), Words.entry(50, 5), Words.entry(60, 6));
    }

    static void terms_split_theNewBlockGetsTheNextOfTheOldOne() {
        FirmStore s = Given.putAll(Given.rising(7), 11, 12, 13, 14);
        Words.block(s, 1, 0, 4, 0, Words.entry(10, 1), Words.entry(11, 11), Words.entry(12, 12));
        Words.block(s, 4, 0, 2, 13, Words.entry(13, 13), Words.entry(14, 14), Words.entry(20, 2), Words.entry(30, 3));
        Words.row(s, 3, Words.entry(0, 1), Words.entry(13, 4), Words.entry(40, 2));
    }

    static void terms_split_theNewBlockIsLinkedByAFirmStore() {
        FirmStore before = Given.cutPut(Given.rising(6), 9, -1, 70);
        Check.same("NEXT", before.word(10), 0);
        FirmStore behind = Given.cutPut(Given.rising(6), 10, 0, 70);
        Check.same("NEXT", behind.word(10), 2);
        Words.row(behind, 1, Words.tens(1, 2, 3, 4, 5, 6));
    }

    static void terms_split_places5And4And3BecomeZeroInThisOrder() {
        Words.row(Given.cutPut(Given.rising(6), 11, -1, 70), 1, Words.tens(1, 2, 3, 4, 5));
        Words.row(Given.cutPut(Given.rising(6), 12, -1, 70), 1, Words.tens(1, 2, 3, 4));
    }

    static void terms_split_theThreeZerosAreLooseUntilAllAreStored() {
        Words.row(Given.cutPut(Given.rising(6), 12, 0, 70), 1, Words.tens(1, 2, 3, 4, 5, 6));
        Words.row(Given.cutPut(Given.rising(6), 13, 0, 70), 1, Words.tens(1, 2, 3));
    }

    // ---- hanging

    static void terms_hang_makesARootWhenTheRootsBlockHasALowerLevel() {
        FirmStore s = Given.rising(7);
        Words.block(s, 3, 1, 0, 0, Words.entry(0, 1), Words.entry(40, 2));
        Check.same("root", s.word(0), 3);
    }

    static void terms_hang_theNewRootComesByAFirmStoreBehindItsBlock() {
        FirmStore s = Given.cutPut(Given.rising(6), 22, 0, 70);
        Words.block(s, 3, 1, 0, 0, Words.entry(0, 1), Words.entry(40, 2));
        Check.same("root", s.word(0), 1);
        FirmStore behind = Given.cutPut(Given.rising(6), 23, 0, 70);
        Check.same("root", behind.word(0), 3);
        Words.row(behind, 2, Words.tens(4, 5, 6));
    }

    static void terms_hang_makesNoRootWhenTheLevelIsThere() {
        FirmStore s = Given.rising(10);
        Check.same("root", s.word(0), 3);
        Words.row(s, 3, Words.entry(0, 1), Words.entry(40, 2), Words.entry(70, 4));
        Check.same("free", s.free(), 26);
    }

    static void terms_hang_fillsTheLastPlaceWithoutASplit() {
        FirmStore s = Given.rising(19);
        Check.same("height", s.height(), 2);
        Check.same("free", s.free(), 23);
        Words.row(s, 3, Words.entry(0, 1), Words.entry(40, 2), Words.entry(70, 4), Words.entry(100, 5),
                Words.entry(130, 6), Words.entry(160, 7));
    }

    static void terms_hang_splitsAFullBlockAndTakesTheNewOneForALowAbove() {
        FirmStore s = Given.rising(22);
        Check.same("root", s.word(0), 10);
        Words.block(s, 10, 2, 0, 0, Words.entry(0, 3), Words.entry(100, 9));
        Words.block(s, 3, 1, 9, 0, Words.entry(0, 1), Words.entry(40, 2), Words.entry(70, 4));
        Words.block(s, 9, 1, 0, 100, Words.entry(100, 5), Words.entry(130, 6), Words.entry(160, 7),
                Words.entry(190, 8));
    }

    static void terms_hang_splitsAFullBlockAndTakesTheOldOneForALowBelow() {
        FirmStore s = Given.putAll(Given.rising(21), 11, 12, 13, 14);
        Check.same("root", s.word(0), 10);
        Words.block(s, 3, 1, 9, 0, Words.entry(0, 1), Words.entry(13, 8), Words.entry(40, 2), Words.entry(70, 4));
        Words.block(s, 9, 1, 0, 100, Words.entry(100, 5), Words.entry(130, 6), Words.entry(160, 7));
    }

    static void terms_hang_aLowJustBelowTheSplitGoesToTheEndOfTheOldBlock() {
        FirmStore s = Given.putAll(Given.rising(21), 97, 98, 99, 96);
        Words.row(s, 3, Words.entry(0, 1), Words.entry(40, 2), Words.entry(70, 4), Words.entry(97, 8));
        Words.row(s, 9, Words.entry(100, 5), Words.entry(130, 6), Words.entry(160, 7));
    }

    static void terms_hang_aLowJustAboveTheSplitGoesToTheNewBlock() {
        FirmStore s = Given.putAll(Given.rising(21), 101, 102, 103, 104);
        Words.row(s, 3, Words.entry(0, 1), Words.entry(40, 2), Words.entry(70, 4));
        Words.row(s, 9, Words.entry(100, 5), Words.entry(103, 8), Words.entry(130, 6), Words.entry(160, 7));
    }

    static void terms_hang_underThreeLevelsFillsTheTopRow() {
        FirmStore s = Given.rising(31);
        Check.same("height", s.height(), 3);
        Words.row(s, 10, Words.entry(0, 3), Words.entry(100, 9), Words.entry(190, 14));
    }

    // ---- FULL

    static void terms_putTree_fullWithoutATreeWhenNoBlockIsFree() {
        FirmStore s = Given.fillTable(new FirmStore(), 30);
        Check.same("put", s.put(0, 5, 5), FirmStore.FULL);
        Check.same("root", s.word(0), 0);
    }

    static void terms_putTree_theLastFreeBlockIsEnoughForATree() {
        FirmStore s = Given.fillTable(new FirmStore(), 29);
        Check.same("put", s.put(0, 5, 5), 1);
        Check.same("root", s.word(0), 30);
        Check.same("free", s.free(), 0);
    }

    static void terms_putTree_fullWhenOneWouldBeMadeAndNoneIsFree() {
        fullAndJustNot(9, 1, 0);
    }

    static void terms_putTree_fullWhenTwoWouldBeMadeAndOneIsFree() {
        fullAndJustNot(6, 2, 1);
    }

    static void terms_putTree_fullWhenThreeWouldBeMadeAndTwoAreFree() {
        fullAndJustNot(21, 3, 2);
        fullAndJustNot(21, 3, 1);
        fullAndJustNot(21, 3, 0);
    }

    static void terms_putTree_fullWhenOneWouldBeMadeUnderThreeLevelsAndNoneIsFree() {
        fullAndJustNot(27, 1, 0);
    }

    static void terms_putTree_fullWhenTwoWouldBeMadeUnderThreeLevelsAndOneIsFree() {
        fullAndJustNot(30, 2, 1);
    }

    static void terms_putTree_fullWhenFourWouldBeMadeAndTwoAreFree() {
        FirmStore s = Given.rising(66);
        Check.same("free", s.free(), 2);
        Check.same("height", s.height(), 3);
        Check.same("put", s.put(0, 670, 9), FirmStore.FULL);
        Check.same("free", s.free(), 2);
        Check.same("a place elsewhere", s.put(0, 5, 9), 1);
    }

    /** The next rising key would make so many blocks: too few are free, and then just enough. */
    private static void fullAndJustNot(int keys, int makes, int free) {
        int used = 30 - Given.rising(keys).free();
        FirmStore full = Given.fillTable(Given.rising(keys), 30 - used - free);
        Check.same("free", full.free(), free);
        Check.same("put", full.put(0, 999, 9), FirmStore.FULL);
        FirmStore enough = Given.fillTable(Given.rising(keys), 30 - used - makes);
        Check.same("free", enough.free(), makes);
        Check.same("put", enough.put(0, 999, 9), 1);
        Check.same("free", enough.free(), 0);
        Check.same("get", enough.get(0, 999), 9);
    }

    static void terms_putTree_fullDoesNothing() {
        FirmStore s = Given.fillTable(Given.rising(21), 21);
        Check.same("put", s.put(0, 999, 9), FirmStore.FULL);
        Words.alike(s, Given.fillTable(Given.rising(21), 21));
    }

    static void terms_putTree_fullLeavesAnOrderedCut() {
        FirmStore s = Given.fillTable(Given.rising(6), 28);
        s.order(0, 0);
        Check.same("put", s.put(0, 999, 9), FirmStore.FULL);
        Check.isFalse("down", s.down());
        Check.same("put over", s.put(0, 10, 9), FirmStore.CUT);
    }

    static void terms_putTree_notFullForAKeyThatIsThere() {
        FirmStore s = Given.fillTable(Given.rising(6), 29);
        Check.same("free", s.free(), 0);
        Check.same("put", s.put(0, 60, 9), 0);
        Check.same("get", s.get(0, 60), 9);
    }

    static void terms_putTree_notFullWhenItsRowHasAPlace() {
        FirmStore s = Given.fillTable(Given.rising(5), 29);
        Check.same("free", s.free(), 0);
        Check.same("put", s.put(0, 60, 9), 1);
        Check.same("put", s.put(0, 70, 9), FirmStore.FULL);
        Check.same("remove", s.remove(0, 10), 1);
        Check.same("put", s.put(0, 70, 9), 1);
    }
}
