/** The edges that the document's terms name for reading what a cut left, and for the recovery. */
public final class RecoveryEdgesTest {
    public static void main(String[] args) {
        Cases.runAll(RecoveryEdgesTest.class);
    }

    // ---- reading

    static void terms_reading_aKeyThatStandsTwiceIsThereOnce() {
        FirmStore s = Given.cutPut(Given.rising(3), 2, 0, 5);
        Words.row(s, 1, Words.tens(1, 2, 2, 3));
        Check.same("size", s.size(0), 3);
        Check.same("get", s.get(0, 20), 2);
        Check.same("from", s.from(20), 20);
        Check.same("from", s.from(21), 30);
    }

    static void terms_reading_entriesThatNextHasTooCountOnce() {
        FirmStore s = Given.cutPut(Given.rising(6), 10, 0, 70);
        Check.same("in both", s.word(15), s.word(21));
        Check.same("size", s.size(0), 6);
        Check.same("get", s.get(0, 40), 4);
        Check.same("from", s.from(31), 40);
        Check.same("from", s.from(60), 60);
        Check.throwsOf("from", Check.NONE, () -> s.from(61));
    }

    static void terms_reading_aBlockThatIsNotYetHungIsReadByNext() {
        FirmStore s = Given.cutPut(Given.rising(9), 13, 0, 100);
        Check.same("not hung", s.word(32), 0);
        Check.same("size", s.size(0), 9);
        Check.same("get", s.get(0, 70), 7);
        Check.same("get", s.get(0, 90), 9);
        Check.same("from", s.from(61), 70);
    }

    static void terms_reading_aBlockThatIsMadeAndNotLinkedIsNotRead() {
        FirmStore s = new FirmStore();
        s.order(9, -1);
        Check.same("put", s.put(1, 8, 5), FirmStore.CUT);
        Check.throwsOf("get", Check.NONE, () -> s.get(1, 8));
        Check.same("size", s.size(1), 0);
    }

    static void terms_reading_aKeyThatIsBeingDroppedIsGoneWithTheFirstStore() {
        FirmStore s = Given.cutRemove(Given.rising(3), 1, 10);
        Words.row(s, 1, Words.tens(2, 2, 3));
        Check.throwsOf("get", Check.NONE, () -> s.get(0, 10));
        Check.same("size", s.size(0), 2);
        Check.same("from", s.from(0), 20);
    }

    // ---- what is put right

    static void terms_recovery_withoutATreeDoesNothing() {
        FirmStore s = Given.cutPut(new FirmStore(), 5, -1, 5);
        Check.same("recover", s.recover(), 0);
        Check.isFalse("down", s.down());
        Words.block(s, 1, 0, 0, 0, Words.entry(5, 7));
    }

    static void terms_recovery_ofATreeWithoutKeysStoresNothing() {
        FirmStore s = emptied(7);
        Given.down(s);
        Check.same("recover", s.recover(), 0);
        Words.alike(s, emptied(7));
    }

    private static FirmStore emptied(int n) {
        FirmStore s = Given.rising(n);
        for (int i = 1; i <= n; i++) {
            s.remove(0, 10 * i);
        }
        return s;
    }

    static void terms_recovery_ofOneBlockThatIsRightHangsNothing() {
        FirmStore s = Given.down(Given.rising(6));
        Check.same("recover", s.recover(), 0);
        Words.alike(s, Given.rising(6));
    }

    static void terms_recovery_ofThreeLevelsThatAreRightStoresNothing() {
        FirmStore s = Given.down(Given.rising(31));
        Check.same("recover", s.recover(), 0);
        Words.alike(s, Given.rising(31));
    }

    static void terms_recovery_aPlaceWhoseKeyIsTheLowOfNextIsWrong() {
        FirmStore s = Given.cutPut(Given.rising(6), 12, -1, 70);
        Words.row(s, 1, Words.tens(1, 2, 3, 4));
        Check.same("one place, and a root", s.recover(), 1 + 10);
        Words.row(s, 1, Words.tens(1, 2, 3));
    }

    static void terms_recovery_aPlaceWhoseKeyIsBelowTheLowOfNextIsNotWrong() {
        FirmStore s = Given.tree(10, 20, 39, 40, 50, 60, 70);
        Given.down(s);
        Check.same("recover", s.recover(), 0);
        Check.same("get", s.get(0, 39), 39);
    }

    static void terms_recovery_noPlaceIsWrongByItsKeyWhenNextIs0() {
        FirmStore s = Given.tree(990, 995, 999);
        Given.down(s);
        Check.same("recover", s.recover(), 0);
        Check.same("get", s.get(0, 999), 999);
    }

    static void terms_recovery_aPlaceBehindA0IsWrong() {
        FirmStore s = Given.cutPut(Given.rising(6), 12, 2, 70);
        Check.same("place 4", s.word(16), 0);
        Check.same("two places, and a root", s.recover(), 2 + 10);
        Words.row(s, 1, Words.tens(1, 2, 3));
    }

    static void terms_recovery_theLastWrongPlaceComesFirst() {
        Words.row(recoveryCut(1, -1), 1, Words.tens(1, 2, 3, 4, 5));
        Words.row(recoveryCut(2, -1), 1, Words.tens(1, 2, 3, 4));
        Words.row(recoveryCut(2, 1), 1, Words.tens(1, 2, 3, 4, 5));
    }

    static void terms_recovery_theWrongPlacesAreLooseUntilTheFenceBehindThem() {
        Words.row(recoveryCut(2, 0), 1, Words.tens(1, 2, 3, 4, 5, 6));
        Words.row(recoveryCut(3, 0), 1, Words.tens(1, 2, 3));
    }

    /** A split whose new block is linked and whose old places are not cleared; its recovery is cut. */
    private static FirmStore recoveryCut(int n, int mask) {
        FirmStore s = Given.cutPut(Given.rising(6), 10, 0, 70);
        s.order(n, mask);
        Check.same("recover", s.recover(), FirmStore.CUT);
        return s;
    }

    static void terms_recovery_wrongPlacesOfAHigherLevel() {
        FirmStore s = Given.cutPut(Given.rising(21), 13 + 10, 0, 220);
        Check.same("the upper block is linked and not cleared", s.word(35), Words.entry(160, 7));
        Check.same("three places, an insert, a root", s.recover(), 3 + 1 + 10);
        Words.row(s, 3, Words.entry(0, 1), Words.entry(40, 2), Words.entry(70, 4));
    }

    static void terms_recovery_wrongPlacesOfALaterBlock() {
        FirmStore s = Given.cutPut(Given.rising(9), 10, 0, 100);
        Words.row(s, 2, Words.tens(4, 5, 6, 7, 8, 9));
        Check.same("three places, an insert", s.recover(), 3 + 1);
        Words.row(s, 2, Words.tens(4, 5, 6));
    }

    static void terms_recovery_wrongPlacesOfALaterBlockOfAHigherLevel() {
        FirmStore s = Given.cutPut(Given.rising(30), 13 + 10, 0, 310);
        Check.same("the upper block is linked and not cleared", s.word(89), Words.entry(250, 12));
        Check.same("three places, two inserts", s.recover(), 3 + 1 + 1);
        Words.row(s, 9, Words.entry(100, 5), Words.entry(130, 6), Words.entry(160, 7));
    }

    static void terms_recovery_twinsOfALaterBlock() {
        FirmStore s = Given.cutPut(Given.rising(7), 2, 0, 55);
        Words.row(s, 2, Words.tens(4, 5, 6, 6, 7));
        Check.same("recover", s.recover(), 2);
        Words.row(s, 2, Words.tens(4, 5, 6, 7));
    }

    static void terms_recovery_twinsInTheFirstPlaces() {
        FirmStore s = Given.cutPut(Given.rising(2), 2, 0, 5);
        Words.row(s, 1, Words.tens(1, 1, 2));
        Check.same("recover", s.recover(), 2);
        Words.row(s, 1, Words.tens(1, 2));
    }

    static void terms_recovery_twinsAtTheEndOfTheRow() {
        FirmStore s = Given.cutPut(Given.rising(2), 1, 0, 5);
        Words.row(s, 1, Words.tens(1, 2, 2));
        Check.same("recover", s.recover(), 1);
        Words.row(s, 1, Words.tens(1, 2));
    }

    static void terms_recovery_twinsInTheLastPlaces() {
        FirmStore s = Given.cutPut(Given.rising(5), 1, 0, 5);
        Words.row(s, 1, Words.tens(1, 2, 3, 4, 5, 5));
        Check.same("recover", s.recover(), 1);
        Words.row(s, 1, Words.tens(1, 2, 3, 4, 5));
    }

    static void terms_recovery_twinsOfAHigherLevel() {
        FirmStore s = Given.putAll(Given.rising(7), 11, 12, 13);
        Given.cutPut(s, 14, 0, 14);
        Words.row(s, 3, Words.entry(0, 1), Words.entry(40, 2), Words.entry(40, 2));
        Check.same("one to drop, two to hang", s.recover(), 1 + 2);
        Words.row(s, 3, Words.entry(0, 1), Words.entry(13, 4), Words.entry(40, 2));
    }

    static void terms_recovery_twinsThatACutRecoveryMovedOnAreDropped() {
        FirmStore s = Given.cutPut(Given.rising(4), 4, 0, 5);
        Words.row(s, 1, Words.tens(1, 1, 2, 3, 4));
        s.order(1, 0);
        Check.same("recover", s.recover(), FirmStore.CUT);
        Words.row(s, 1, Words.tens(1, 2, 2, 3, 4));
        Check.same("recover", s.recover(), 3);
        Words.row(s, 1, Words.tens(1, 2, 3, 4));
    }

    // ---- what is hung

    static void terms_recovery_theNextLevelBeginsToBe() {
        FirmStore s = Given.cutPut(Given.rising(6), 13, 0, 70);
        Check.same("a root", s.recover(), 10);
        Check.same("height", s.height(), 2);
        Words.block(s, 3, 1, 0, 0, Words.entry(0, 1), Words.entry(40, 2));
    }

    static void terms_recovery_aBlockThatIsNoValueIsHung() {
        FirmStore s = Given.cutPut(Given.rising(9), 13, 0, 100);
        Check.same("an insert", s.recover(), 1);
        Words.row(s, 3, Words.entry(0, 1), Words.entry(40, 2), Words.entry(70, 4));
    }

    static void terms_recovery_aBlockThatIsAValueIsNotHungAgain() {
        FirmStore s = Given.cutPut(Given.rising(6), 23, 0, 70);
        Check.same("recover", s.recover(), 0);
        Words.row(s, 3, Words.entry(0, 1), Words.entry(40, 2));
        Check.throwsOf("the key is not put", Check.NONE, () -> s.get(0, 70));
    }

    static void terms_recovery_aFullNextLevelIsSplitAndItsNewBlockHung() {
        FirmStore s = Given.cutPut(Given.rising(21), 13, 0, 220);
        Check.same("height", s.height(), 2);
        Check.same("a split, a root, an insert", s.recover(), 13 + 10 + 1);
        Check.same("height", s.height(), 3);
        Words.block(s, 10, 2, 0, 0, Words.entry(0, 3), Words.entry(100, 9));
        Words.row(s, 9, Words.entry(100, 5), Words.entry(130, 6), Words.entry(160, 7), Words.entry(190, 8));
    }

    static void terms_recovery_blocksOfTwoLevelsAreHungTheLowerFirst() {
        FirmStore s = Given.cutPut(Given.rising(21), 13 + 13, 0, 220);
        s.order(1, 0);
        Check.same("recover", s.recover(), FirmStore.CUT);
        Words.row(s, 9, Words.entry(100, 5), Words.entry(130, 6), Words.entry(160, 7), Words.entry(190, 8));
        Check.same("root", s.word(0), 3);
        Check.same("a root", s.recover(), 10);
        Check.same("root", s.word(0), 10);
        Words.block(s, 10, 2, 0, 0, Words.entry(0, 3), Words.entry(100, 9));
    }

    static void terms_recovery_hasJustTheFreeBlocksItNeeds() {
        FirmStore s = Given.fillTable(Given.rising(21), 20);
        Given.cutPut(s, 13, 0, 220);
        Check.same("free", s.free(), 2);
        Check.same("recover", s.recover(), 13 + 10 + 1);
        Check.same("free", s.free(), 0);
        Check.same("put", s.put(0, 220, 9), 1);
    }

    // ---- its end

    static void terms_recovery_atLastTheMemoryIsUp() {
        FirmStore s = Given.cutPut(Given.rising(6), 10, 0, 70);
        s.recover();
        Check.isFalse("down", s.down());
        Check.same("put", s.put(0, 70, 7), 1);
    }

    static void terms_recovery_cutOffLeavesTheMemoryDown() {
        FirmStore s = recoveryCut(3, 0);
        Check.isTrue("down", s.down());
        Check.throwsOf("put", Check.STATE, () -> s.put(0, 70, 7));
        Check.same("a root", s.recover(), 10);
        Check.isFalse("down", s.down());
    }

    static void terms_recovery_doesNotTouchTheTable() {
        FirmStore s = Given.fillTable(new FirmStore(), 1);
        s.remove(1, 8);
        s.order(0, 0);
        Check.same("put", s.put(1, 8, 9), FirmStore.CUT);
        Check.same("recover", s.recover(), 0);
        Check.same("the 0 among its places", s.word(13), 0);
        Check.same("what stands behind it", s.word(17), Words.entry(40, 5));
    }
}
