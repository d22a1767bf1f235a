import java.util.function.Consumer;

/** The edges that the promises name: refused calls, and the least, the greatest, none and full. */
public final class PromiseEdgesTest {
    private static final int[] BELOW = {-1, -2, Integer.MIN_VALUE};
    private static final int[] ABOVE_1 = {2, 3, Integer.MAX_VALUE};
    private static final int[] ABOVE_999 = {1000, 1001, Integer.MAX_VALUE};

    public static void main(String[] args) {
        Cases.runAll(PromiseEdgesTest.class);
    }

    /** Something in the tree and in the table, and a cut that comes with the second store. */
    private static FirmStore ordered() {
        FirmStore s = Given.rising(3);
        s.put(1, 10, 1);
        s.order(1, 0);
        return s;
    }

    /** Down, with twins in the tree that a recovery would drop, and a cut ordered for that. */
    private static FirmStore downed() {
        FirmStore s = Given.cutPut(Given.rising(3), 2, 0, 5);
        s.order(1, 0);
        return s;
    }

    /** The call throws, up and down, and is as if it had not been, also for the ordered cut. */
    private static void refused(Class<? extends RuntimeException> due, Consumer<FirmStore> call) {
        refusedUp(due, call);
        refusedDown(due, call);
    }

    private static void refusedUp(Class<? extends RuntimeException> due, Consumer<FirmStore> call) {
        FirmStore s = ordered();
        Check.throwsOf("up", due, () -> call.accept(s));
        FirmStore untouched = ordered();
        Words.alike(s, untouched);
        for (FirmStore each : new FirmStore[] {s, untouched}) {
            Check.same("the first store", each.put(0, 10, 8), 0);
            Check.same("the second store", each.put(0, 10, 9), FirmStore.CUT);
        }
    }

    private static void refusedDown(Class<? extends RuntimeException> due, Consumer<FirmStore> call) {
        FirmStore s = downed();
        Check.throwsOf("down", due, () -> call.accept(s));
        Words.alike(s, downed());
        Check.same("a recovery of two stores", s.recover(), FirmStore.CUT);
        Words.row(s, 1, Words.tens(1, 2, 3, 3));
    }

    // ---- the whole document

    static void whatItIs_the512thCallStillAnswers() {
        FirmStore s = new FirmStore();
        for (int call = 1; call <= 510; call++) {
            Check.same("put " + call, s.put(call % 2, call % 7, call), call <= 14 ? 1 : 0);
        }
        Check.same("call 511", s.get(0, 510 % 7), 510);
        Check.same("call 512", s.size(1), 7);
    }

    // ---- promise 1: a new object

    static void promise1_new_isUp() {
        FirmStore s = new FirmStore();
        Check.isFalse("down", s.down());
        Check.throwsOf("recover", Check.STATE, () -> s.recover());
    }

    static void promise1_new_hasNoCutOrdered() {
        FirmStore s = new FirmStore();
        for (int k = 0; k < 8; k++) {
            Check.same("put", s.put(1, k, k), 1);
        }
        Check.same("more stores than an order reaches", s.stores(), 80);
        Check.isFalse("down", s.down());
    }

    static void promise1_new_hasNoLooseStore() {
        FirmStore s = Given.cutPut(new FirmStore(), 8, 1 << 3, 5);
        Words.block(s, 1, 0, 0, 0, Words.entry(5, 7));
        Words.block(Given.cutPut(new FirmStore(), 8, ~(1 << 3), 5), 1);
    }

    static void promise1_new_knowsNothingOfAnother() {
        FirmStore other = Given.down(Given.rising(7));
        FirmStore s = new FirmStore();
        Check.isTrue("the other is down", other.down());
        Check.isFalse("down", s.down());
        Check.same("size", s.size(0), 0);
        Check.same("stores", s.stores(), 0);
    }

    // ---- promise 2: put

    static void promise2_put_partBelow0() {
        for (int t : BELOW) {
            refused(Check.ARGUMENT, s -> s.put(t, 10, 1));
        }
    }

    static void promise2_put_partAbove1() {
        for (int t : ABOVE_1) {
            refused(Check.ARGUMENT, s -> s.put(t, 10, 1));
        }
    }

    static void promise2_put_keyBelow0() {
        for (int k : BELOW) {
            refused(Check.ARGUMENT, s -> s.put(0, k, 1));
            refused(Check.ARGUMENT, s -> s.put(1, k, 1));
        }
    }

    static void promise2_put_keyAbove999() {
        for (int k : ABOVE_999) {
            refused(Check.ARGUMENT, s -> s.put(0, k, 1));
            refused(Check.ARGUMENT, s -> s.put(1, k, 1));
        }
    }

    static void promise2_put_keys0And999() {
        for (int t = 0; t <= 1; t++) {
            FirmStore s = new FirmStore();
            Check.same("put 0", s.put(t, 0, 1), 1);
            Check.same("put 999", s.put(t, 999, 2), 1);
            Check.same("get 0", s.get(t, 0), 1);
            Check.same("get 999", s.get(t, 999), 2);
        }
    }

    static void promise2_put_whileDown() {
        refusedDown(Check.STATE, s -> s.put(0, 10, 9));
        refusedDown(Check.STATE, s -> s.put(0, 11, 9));
        refusedDown(Check.STATE, s -> s.put(1, 10, 9));
    }

    static void promise2_put_whileDownEvenIfItWouldBeFull() {
        FirmStore s = Given.fillTable(new FirmStore(), 30);
        s.order(0, 0);
        s.remove(1, 0);
        Check.throwsOf("put", Check.STATE, () -> s.put(0, 1, 1));
        Check.throwsOf("put", Check.STATE, () -> s.put(1, 992, 1));
    }

    static void promise2_put_wrongArgumentsWhileDownAreNamedFirst() {
        refusedDown(Check.ARGUMENT, s -> s.put(2, 10, 9));
        refusedDown(Check.ARGUMENT, s -> s.put(0, 1000, 9));
        refusedDown(Check.ARGUMENT, s -> s.put(-1, -1, 9));
    }

    static void promise2_put_answers1WhenTheKeyWasNotThere() {
        for (int t = 0; t <= 1; t++) {
            FirmStore s = new FirmStore();
            Check.same("the first", s.put(t, 8, 5), 1);
            Check.same("another", s.put(t, 16, 5), 1);
            s.remove(t, 8);
            Check.same("again", s.put(t, 8, 5), 1);
        }
    }

    static void promise2_put_answers1BehindASplit() {
        Check.same("put", Given.rising(6).put(0, 70, 7), 1);
        Check.same("put", Given.rising(21).put(0, 220, 22), 1);
    }

    static void promise2_put_answers0WhenTheKeyWasThere() {
        for (int t = 0; t <= 1; t++) {
            FirmStore s = new FirmStore();
            s.put(t, 8, 5);
            Check.same("another value", s.put(t, 8, 6), 0);
            Check.same("get", s.get(t, 8), 6);
            Check.same("size", s.size(t), 1);
        }
    }

    static void promise2_put_theSameValueAgainIsAStoreToo() {
        for (int t = 0; t <= 1; t++) {
            FirmStore s = new FirmStore();
            s.put(t, 8, 5);
            Check.same("put", s.put(t, 8, 5), 0);
            Check.same("stores", s.stores(), 11);
            s.order(0, 0);
            Check.same("put", s.put(t, 8, 5), FirmStore.CUT);
        }
    }

    static void promise2_put_answersFullInTheTree() {
        FirmStore s = Given.fillTable(Given.rising(6), 29);
        Check.same("put", s.put(0, 70, 7), -1);
        Check.throwsOf("get", Check.NONE, () -> s.get(0, 70));
        Check.isFalse("down", s.down());
    }

    static void promise2_put_answersFullInTheTable() {
        FirmStore s = Given.fillTable(new FirmStore(), 30);
        Check.same("put", s.put(1, 999, 7), -1);
        Check.throwsOf("get", Check.NONE, () -> s.get(1, 999));
        Check.isFalse("down", s.down());
    }

    static void promise2_put_answersCutAtEachStoreOfAFirstPut() {
        for (int t = 0; t <= 1; t++) {
            for (int n = 0; n <= 9; n++) {
                FirmStore s = new FirmStore();
                s.order(n, -1);
                Check.same("store " + n, s.put(t, 5, 5), -2);
                Check.same("size", s.size(t), 0);
                Check.same("stores", s.stores(), n);
            }
            FirmStore s = new FirmStore();
            s.order(10, -1);
            Check.same("store 10 is not one of it", s.put(t, 5, 5), 1);
        }
    }

    static void promise2_put_answersCutAtEachStoreOfASplit() {
        for (int n = 0; n <= 23; n++) {
            FirmStore s = Given.rising(6);
            s.order(n, -1);
            Check.same("store " + n, s.put(0, 70, 7), -2);
            Check.same("stores", s.stores(), 15 + n);
        }
        FirmStore s = Given.rising(6);
        s.order(24, -1);
        Check.same("store 24 is not one of it", s.put(0, 70, 7), 1);
    }

    static void promise2_put_answersCutOverAValue() {
        for (int t = 0; t <= 1; t++) {
            FirmStore s = new FirmStore();
            s.put(t, 5, 5);
            s.order(0, -1);
            Check.same("put", s.put(t, 5, 6), -2);
            Check.same("get", s.get(t, 5), 5);
        }
    }

    // ---- promise 3: remove

    static void promise3_remove_partBelow0() {
        for (int t : BELOW) {
            refused(Check.ARGUMENT, s -> s.remove(t, 10));
        }
    }

    static void promise3_remove_partAbove1() {
        for (int t : ABOVE_1) {
            refused(Check.ARGUMENT, s -> s.remove(t, 10));
        }
    }

    static void promise3_remove_keyBelow0() {
        for (int k : BELOW) {
            refused(Check.ARGUMENT, s -> s.remove(0, k));
            refused(Check.ARGUMENT, s -> s.remove(1, k));
        }
    }

    static void promise3_remove_keyAbove999() {
        for (int k : ABOVE_999) {
            refused(Check.ARGUMENT, s -> s.remove(0, k));
            refused(Check.ARGUMENT, s -> s.remove(1, k));
        }
    }

    static void promise3_remove_keys0And999() {
        for (int t = 0; t <= 1; t++) {
            for (int k : new int[] {0, 999}) {
                FirmStore s = new FirmStore();
                s.put(t, k, 1);
                Check.same("remove", s.remove(t, k), 1);
                Check.same("size", s.size(t), 0);
            }
        }
    }

    static void promise3_remove_whileDown() {
        refusedDown(Check.STATE, s -> s.remove(0, 10));
    }

    static void promise3_remove_whileDownAndNotThereTheStateIsNamedFirst() {
        refusedDown(Check.STATE, s -> s.remove(0, 11));
        refusedDown(Check.STATE, s -> s.remove(1, 10));
    }

    static void promise3_remove_wrongArgumentsWhileDownAreNamedFirst() {
        refusedDown(Check.ARGUMENT, s -> s.remove(2, 10));
        refusedDown(Check.ARGUMENT, s -> s.remove(0, -1));
    }

    static void promise3_remove_keyNotThere() {
        refusedUp(Check.NONE, s -> s.remove(0, 11));
        refusedUp(Check.NONE, s -> s.remove(0, 0));
        refusedUp(Check.NONE, s -> s.remove(0, 999));
        refusedUp(Check.NONE, s -> s.remove(1, 2));
        refusedUp(Check.NONE, s -> s.remove(1, 3));
    }

    static void promise3_remove_nothingThereAtAll() {
        FirmStore s = new FirmStore();
        Check.throwsOf("tree", Check.NONE, () -> s.remove(0, 0));
        Check.throwsOf("table", Check.NONE, () -> s.remove(1, 0));
    }

    static void promise3_remove_twice() {
        for (int t = 0; t <= 1; t++) {
            int part = t;
            FirmStore s = new FirmStore();
            s.put(t, 5, 5);
            Check.same("remove", s.remove(t, 5), 1);
            Check.throwsOf("remove", Check.NONE, () -> s.remove(part, 5));
        }
    }

    static void promise3_remove_keyOfTheOtherPart() {
        FirmStore s = new FirmStore();
        s.put(0, 5, 5);
        s.put(1, 6, 6);
        Check.throwsOf("table", Check.NONE, () -> s.remove(1, 5));
        Check.throwsOf("tree", Check.NONE, () -> s.remove(0, 6));
    }

    static void promise3_remove_answersCutInTheTree() {
        for (int n = 0; n <= 3; n++) {
            FirmStore s = Given.rising(4);
            s.order(n, -1);
            Check.same("store " + n, s.remove(0, 10), -2);
            Check.same("size", s.size(0), n == 0 ? 4 : 3);
        }
        FirmStore s = Given.rising(4);
        s.order(4, -1);
        Check.same("store 4 is not one of it", s.remove(0, 10), 1);
    }

    static void promise3_remove_answersCutInTheTable() {
        FirmStore s = new FirmStore();
        s.put(1, 5, 5);
        s.order(0, -1);
        Check.same("remove", s.remove(1, 5), -2);
        Check.same("get", s.get(1, 5), 5);
    }

    // ---- promise 4: get

    static void promise4_get_partBelow0() {
        for (int t : BELOW) {
            refused(Check.ARGUMENT, s -> s.get(t, 10));
        }
    }

    static void promise4_get_partAbove1() {
        for (int t : ABOVE_1) {
            refused(Check.ARGUMENT, s -> s.get(t, 10));
        }
    }

    static void promise4_get_keyBelow0() {
        for (int k : BELOW) {
            refused(Check.ARGUMENT, s -> s.get(0, k));
            refused(Check.ARGUMENT, s -> s.get(1, k));
        }
    }

    static void promise4_get_keyAbove999() {
        for (int k : ABOVE_999) {
            refused(Check.ARGUMENT, s -> s.get(0, k));
            refused(Check.ARGUMENT, s -> s.get(1, k));
        }
    }

    static void promise4_get_keyNotThere() {
        refused(Check.NONE, s -> s.get(0, 11));
        refused(Check.NONE, s -> s.get(0, 0));
        refused(Check.NONE, s -> s.get(0, 999));
        refused(Check.NONE, s -> s.get(1, 2));
        refused(Check.NONE, s -> s.get(1, 3));
    }

    static void promise4_get_nothingThereAtAll() {
        FirmStore s = new FirmStore();
        Check.throwsOf("tree", Check.NONE, () -> s.get(0, 0));
        Check.throwsOf("table", Check.NONE, () -> s.get(1, 0));
    }

    static void promise4_get_removedKey() {
        FirmStore s = Given.rising(3);
        s.put(1, 8, 1);
        s.remove(0, 20);
        s.remove(1, 8);
        Check.throwsOf("tree", Check.NONE, () -> s.get(0, 20));
        Check.throwsOf("table", Check.NONE, () -> s.get(1, 8));
    }

    static void promise4_get_whileDown() {
        FirmStore s = Given.rising(9);
        s.put(1, 8, -8);
        Given.down(s);
        Check.same("tree", s.get(0, 90), 9);
        Check.same("table", s.get(1, 8), -8);
        Check.throwsOf("tree", Check.NONE, () -> s.get(0, 95));
        Check.throwsOf("table", Check.NONE, () -> s.get(1, 16));
        Check.isTrue("down", s.down());
    }

    // ---- promise 5: from

    static void promise5_from_keyBelow0() {
        for (int k : BELOW) {
            refused(Check.ARGUMENT, s -> s.from(k));
        }
    }

    static void promise5_from_keyAbove999() {
        for (int k : ABOVE_999) {
            refused(Check.ARGUMENT, s -> s.from(k));
        }
    }

    static void promise5_from_noneAtTheKeyOrAbove() {
        refused(Check.NONE, s -> s.from(31));
        refused(Check.NONE, s -> s.from(999));
    }

    static void promise5_from_nothingInTheTree() {
        FirmStore s = new FirmStore();
        s.put(1, 5, 5);
        Check.throwsOf("no tree", Check.NONE, () -> s.from(0));
        s.put(0, 5, 5);
        s.remove(0, 5);
        Check.throwsOf("no key", Check.NONE, () -> s.from(0));
    }

    static void promise5_from_theKeyItself() {
        FirmStore s = Given.rising(3);
        Check.same("the least", s.from(10), 10);
        Check.same("the last", s.from(30), 30);
    }

    static void promise5_from_theNextAbove() {
        FirmStore s = Given.rising(3);
        Check.same("from", s.from(0), 10);
        Check.same("from", s.from(11), 20);
        Check.same("from", s.from(29), 30);
    }

    static void promise5_from_keys0And999() {
        FirmStore s = Given.tree(0, 999);
        Check.same("from", s.from(0), 0);
        Check.same("from", s.from(1), 999);
        Check.same("from", s.from(999), 999);
    }

    static void promise5_from_overTheEndOfABlock() {
        FirmStore s = Given.rising(7);
        Check.same("from", s.from(31), 40);
        Check.same("from", s.from(39), 40);
    }

    static void promise5_from_overEmptyBlocks() {
        FirmStore s = Given.rising(13);
        for (int k = 40; k <= 90; k += 10) {
            s.remove(0, k);
        }
        Check.same("from", s.from(31), 100);
        Check.same("from", s.from(70), 100);
        for (int k = 100; k <= 130; k += 10) {
            s.remove(0, k);
        }
        Check.throwsOf("from", Check.NONE, () -> s.from(31));
        Check.same("from", s.from(30), 30);
    }

    static void promise5_from_whileDown() {
        FirmStore s = Given.down(Given.rising(7));
        Check.same("from", s.from(31), 40);
        Check.throwsOf("from", Check.NONE, () -> s.from(71));
    }

    // ---- promise 6: order

    static void promise6_order_nBelow0() {
        for (int n : BELOW) {
            orderIsRefused(n);
        }
    }

    static void promise6_order_nAbove60() {
        for (int n : new int[] {61, 62, Integer.MAX_VALUE}) {
            orderIsRefused(n);
        }
    }

    private static void orderIsRefused(int n) {
        FirmStore none = Given.rising(1);
        Check.isFalse("order " + n, none.order(n, -1));
        for (int i = 0; i < 70; i++) {
            Check.same("none is ordered", none.put(0, 10, i), 0);
        }
        FirmStore one = Given.rising(6);
        one.order(12, 0);
        Check.isFalse("order " + n, one.order(n, -1));
        Check.same("the one from before", one.put(0, 70, 7), FirmStore.CUT);
        Check.same("as it was ordered", one.stores(), 15 + 12);
        Words.row(one, 1, Words.tens(1, 2, 3, 4, 5, 6));
    }

    static void promise6_order_n0IsTheNextStore() {
        FirmStore s = Given.rising(1);
        Check.isTrue("order", s.order(0, 0));
        Check.same("put", s.put(0, 10, 9), FirmStore.CUT);
        Check.same("stores", s.stores(), 10);
    }

    static void promise6_order_n60IsThe61stStore() {
        FirmStore s = Given.rising(1);
        Check.isTrue("order", s.order(60, 0));
        for (int i = 1; i <= 60; i++) {
            Check.same("store " + i, s.put(0, 10, i), 0);
        }
        Check.same("store 61", s.put(0, 10, 61), FirmStore.CUT);
        Check.same("get", s.get(0, 10), 60);
    }

    static void promise6_order_countsOverSeveralCalls() {
        FirmStore s = Given.rising(2);
        Check.isTrue("order", s.order(12, 0));
        Check.same("ten stores", s.put(1, 5, 5), 1);
        Check.same("two stores", s.remove(0, 10), 1);
        Check.same("then the cut", s.remove(0, 20), FirmStore.CUT);
    }

    static void promise6_order_aLaterOneInPlaceOfAnother() {
        FirmStore s = Given.rising(1);
        s.order(0, 0);
        Check.isTrue("order", s.order(2, 0));
        Check.same("put", s.put(0, 10, 2), 0);
        Check.same("put", s.put(0, 10, 3), 0);
        Check.same("put", s.put(0, 10, 4), FirmStore.CUT);
        s.recover();
        Check.same("one cut only", s.put(0, 10, 5), 0);
    }

    static void promise6_order_anEarlierOneInPlaceOfAnother() {
        FirmStore s = Given.rising(1);
        s.order(2, 0);
        Check.isTrue("order", s.order(0, 0));
        Check.same("put", s.put(0, 10, 2), FirmStore.CUT);
        s.recover();
        for (int i = 0; i < 5; i++) {
            Check.same("one cut only", s.put(0, 10, i), 0);
        }
    }

    static void promise6_order_itsMaskComesInPlaceOfTheOtherMask() {
        FirmStore s = Given.rising(6);
        s.order(12, -1);
        s.order(12, 0);
        s.put(0, 70, 7);
        Words.row(s, 1, Words.tens(1, 2, 3, 4, 5, 6));
    }

    static void promise6_order_maskBit0IsTheOldestLooseStore() {
        Words.row(Given.cutPut(Given.rising(6), 12, 1, 70), 1, Words.tens(1, 2, 3, 4, 5));
    }

    static void promise6_order_maskBit1IsTheSecondLooseStore() {
        Words.row(Given.cutPut(Given.rising(6), 12, 2, 70), 1, Words.entry(10, 1), Words.entry(20, 2),
                Words.entry(30, 3), Words.entry(40, 4), 0, Words.entry(60, 6));
    }

    static void promise6_order_maskBitsBehindTheLooseStoresAreForNothing() {
        for (int mask : new int[] {4, ~3, Integer.MIN_VALUE}) {
            Words.row(Given.cutPut(Given.rising(6), 12, mask, 70), 1, Words.tens(1, 2, 3, 4, 5, 6));
        }
    }

    static void promise6_order_mask0KeepsNoneAndMaskMinus1KeepsAll() {
        Words.row(Given.cutPut(Given.rising(6), 12, 0, 70), 1, Words.tens(1, 2, 3, 4, 5, 6));
        Words.row(Given.cutPut(Given.rising(6), 12, -1, 70), 1, Words.tens(1, 2, 3, 4));
    }

    static void promise6_order_bitsCountLooseStoresAndNotThoseSinceTheOrder() {
        FirmStore s = Given.rising(1);
        s.order(3 + 8, 1 << 3);
        for (int i = 0; i < 3; i++) {
            s.put(0, 10, i);
        }
        Check.same("put", s.put(1, 5, 5), FirmStore.CUT);
        Words.block(s, 2, 0, 0, 0, Words.entry(5, 5));
    }

    static void promise6_order_whileDown() {
        FirmStore s = Given.cutPut(Given.rising(2), 2, 0, 5);
        Check.isTrue("order", s.order(0, 0));
        Check.isFalse("order", s.order(61, 0));
        Check.same("recover", s.recover(), FirmStore.CUT);
    }

    // ---- promise 7: recover

    static void promise7_recover_memoryNotDown() {
        refusedUp(Check.STATE, s -> s.recover());
        Check.throwsOf("new", Check.STATE, () -> new FirmStore().recover());
    }

    static void promise7_recover_memoryNotDownAnyMore() {
        FirmStore s = Given.down(Given.rising(1));
        s.recover();
        Check.throwsOf("recover", Check.STATE, () -> s.recover());
    }

    static void promise7_recover_answersHowManyStoresItMade() {
        FirmStore s = Given.cutPut(Given.rising(6), 10, 0, 70);
        int before = s.stores();
        Check.same("recover", s.recover(), 13);
        Check.same("stores", s.stores() - before, 13);
    }

    static void promise7_recover_answersOnlyItsOwnStoresBehindOneThatWasCut() {
        FirmStore s = Given.cutPut(Given.rising(6), 10, 0, 70);
        s.order(5, 0);
        Check.same("recover", s.recover(), FirmStore.CUT);
        Check.same("recover", s.recover(), 10);
    }

    static void promise7_recover_answers0WhenThereIsNothingToDo() {
        Check.same("recover", Given.down(Given.rising(7)).recover(), 0);
    }

    static void promise7_recover_withoutATree() {
        FirmStore s = Given.down(new FirmStore());
        Check.same("recover", s.recover(), 0);
        Check.isFalse("down", s.down());
    }

    static void promise7_recover_anEmptyTree() {
        FirmStore s = Given.rising(1);
        s.remove(0, 10);
        Given.down(s);
        Check.same("recover", s.recover(), 0);
        Check.isFalse("down", s.down());
        Check.same("height", s.height(), 1);
    }

    static void promise7_recover_cutAtEachOfItsStores() {
        for (int n = 0; n <= 12; n++) {
            FirmStore s = Given.cutPut(Given.rising(6), 10, 0, 70);
            s.order(n, 0);
            Check.same("recover", s.recover(), -2);
            Check.isTrue("down", s.down());
            Check.same("stores", s.stores(), 15 + 10 + n);
            Check.same("size", s.size(0), 6);
            Check.same("recover", s.recover(), n < 3 ? 13 : 10);
            Check.same("size", s.size(0), 6);
        }
        FirmStore s = Given.cutPut(Given.rising(6), 10, 0, 70);
        s.order(13, 0);
        Check.same("store 13 is not one of it", s.recover(), 13);
    }

    static void promise7_recover_anOrderThatItDoesNotReachStays() {
        FirmStore s = Given.down(Given.rising(1));
        s.order(0, 0);
        Check.same("recover", s.recover(), 0);
        Check.same("put", s.put(0, 10, 2), FirmStore.CUT);
    }

    // ---- promise 8: size

    static void promise8_size_partBelow0() {
        for (int t : BELOW) {
            Check.same("size " + t, ordered().size(t), -1);
            Check.same("size " + t, downed().size(t), -1);
        }
    }

    static void promise8_size_partAbove1() {
        for (int t : ABOVE_1) {
            Check.same("size " + t, ordered().size(t), -1);
            Check.same("size " + t, downed().size(t), -1);
        }
    }

    static void promise8_size_nothingInTheTree() {
        FirmStore s = new FirmStore();
        s.put(1, 5, 5);
        Check.same("no tree", s.size(0), 0);
        s.put(0, 5, 5);
        s.remove(0, 5);
        Check.same("no key", s.size(0), 0);
    }

    static void promise8_size_nothingInTheTable() {
        FirmStore s = Given.rising(7);
        Check.same("no chain", s.size(1), 0);
        s.put(1, 5, 5);
        s.remove(1, 5);
        Check.same("no key", s.size(1), 0);
    }

    static void promise8_size_aFullTable() {
        Check.same("size", Given.fillTable(new FirmStore(), 30).size(1), 180);
    }

    static void promise8_size_aTreeOfThreeLevels() {
        FirmStore s = Given.rising(66);
        Check.same("size", s.size(0), 66);
        Check.same("size of the table", s.size(1), 0);
    }

    static void promise8_size_aKeyPutOverCountsOnce() {
        FirmStore s = ordered();
        s.order(60, 0);
        s.put(0, 10, 9);
        s.put(1, 10, 9);
        Check.same("tree", s.size(0), 3);
        Check.same("table", s.size(1), 1);
    }

    static void promise8_size_whileDown() {
        FirmStore s = downed();
        Check.same("with twins", s.size(0), 3);
        Check.same("table", s.size(1), 0);
    }

    // ---- promise 9: free

    static void promise9_free_aNewObject() {
        Check.same("free", new FirmStore().free(), 30);
    }

    static void promise9_free_noBlock() {
        Check.same("table", Given.fillTable(new FirmStore(), 30).free(), 0);
        FirmStore both = Given.fillTable(Given.rising(6), 29);
        Check.same("both", both.free(), 0);
    }

    static void promise9_free_noTreeAndATable() {
        FirmStore s = new FirmStore();
        s.put(1, 0, 0);
        s.put(1, 7, 7);
        Check.same("free", s.free(), 28);
    }

    static void promise9_free_blocksOfAllLevelsOfTheTree() {
        Check.same("one level", Given.rising(6).free(), 29);
        Check.same("two levels", Given.rising(7).free(), 27);
        Check.same("three levels", Given.rising(22).free(), 20);
    }

    static void promise9_free_blocksOfAChainReachedByNext() {
        Check.same("free", Given.fillTable(new FirmStore(), 16).free(), 14);
    }

    static void promise9_free_aBlockMadeAndNotLinked() {
        Check.same("behind its ninth store", Given.cutPut(Given.rising(6), 9, -1, 70).free(), 29);
    }

    static void promise9_free_notABlockLinkedByNextAndNotHung() {
        FirmStore s = Given.cutPut(Given.rising(6), 13, 0, 70);
        Check.same("free", s.free(), 28);
        Check.same("under a root", Given.cutPut(Given.rising(9), 13, 0, 100).free(), 26);
    }

    static void promise9_free_notABlockWithoutEntries() {
        FirmStore s = new FirmStore();
        s.put(0, 5, 5);
        s.put(1, 5, 5);
        s.remove(0, 5);
        s.remove(1, 5);
        Check.same("free", s.free(), 28);
    }

    static void promise9_free_aValueOfLevel0IsNoBlock() {
        FirmStore s = new FirmStore();
        s.put(0, 5, 30);
        s.put(1, 5, 29);
        Check.same("free", s.free(), 28);
    }

    // ---- promise 10: height

    static void promise10_height_aNewObject() {
        Check.same("height", new FirmStore().height(), 0);
    }

    static void promise10_height_noTreeAndATable() {
        Check.same("height", Given.fillTable(new FirmStore(), 3).height(), 0);
    }

    static void promise10_height_noBlockFree() {
        Check.same("no tree", Given.fillTable(new FirmStore(), 30).height(), 0);
        Check.same("a tree", Given.fillTable(Given.rising(7), 27).height(), 2);
    }

    static void promise10_height_oneLevelUpToSixKeys() {
        Check.same("one", Given.rising(1).height(), 1);
        Check.same("six", Given.rising(6).height(), 1);
    }

    static void promise10_height_twoLevelsFromSevenKeys() {
        Check.same("seven", Given.rising(7).height(), 2);
        Check.same("twenty-one", Given.rising(21).height(), 2);
    }

    static void promise10_height_threeLevels() {
        Check.same("twenty-two", Given.rising(22).height(), 3);
        Check.same("sixty-six", Given.rising(66).height(), 3);
    }

    static void promise10_height_aTreeWithoutKeys() {
        FirmStore s = Given.rising(7);
        for (int k = 10; k <= 70; k += 10) {
            s.remove(0, k);
        }
        Check.same("height", s.height(), 2);
    }

    static void promise10_height_whileDown() {
        Check.same("before the root's store", Given.cutPut(Given.rising(6), 22, 0, 70).height(), 1);
        Check.same("behind it", Given.cutPut(Given.rising(6), 23, 0, 70).height(), 2);
        Check.same("no tree", Given.down(new FirmStore()).height(), 0);
    }

    // ---- promise 11: word

    static void promise11_word_below0() {
        for (int a : BELOW) {
            Check.same("word " + a, Given.fillTable(Given.rising(1), 29).word(a), 0);
        }
    }

    static void promise11_word_above278() {
        for (int a : new int[] {279, 280, Integer.MAX_VALUE}) {
            Check.same("word " + a, Given.fillTable(Given.rising(1), 29).word(a), 0);
        }
    }

    static void promise11_word_0() {
        FirmStore s = Given.fillTable(new FirmStore(), 4);
        Check.same("without a tree", s.word(0), 0);
        s.put(0, 5, 5);
        Check.same("with a tree", s.word(0), 5);
    }

    static void promise11_word_278() {
        FirmStore s = Given.fillTable(new FirmStore(), 29);
        s.put(1, Given.keyOfTable(29, 0), 7);
        Check.same("before the last place is filled", s.word(278), 0);
        for (int i = 1; i < 6; i++) {
            s.put(1, Given.keyOfTable(29, i), 7);
        }
        Check.same("behind", s.word(278), Words.entry(Given.keyOfTable(29, 5), 7));
    }

    static void promise11_word_whileDown() {
        Check.same("word 17", Given.down(Given.rising(6)).word(17), Words.entry(60, 6));
    }

    // ---- promise 12: stores

    static void promise12_stores_aNewObject() {
        Check.same("stores", new FirmStore().stores(), 0);
    }

    static void promise12_stores_behindACut() {
        FirmStore s = Given.cutPut(Given.rising(6), 12, 0, 70);
        Check.same("also those that were taken back, not the one that did not happen", s.stores(), 15 + 12);
        Check.same("none", Given.down(new FirmStore()).stores(), 0);
    }

    static void promise12_stores_behindARecovery() {
        FirmStore s = Given.cutPut(Given.rising(6), 10, 0, 70);
        s.order(2, 0);
        s.recover();
        Check.same("one that was cut", s.stores(), 15 + 10 + 2);
        s.recover();
        Check.same("one that went through", s.stores(), 15 + 10 + 2 + 13);
    }

    static void promise12_stores_notByCallsThatOnlyRead() {
        FirmStore s = ordered();
        int before = s.stores();
        s.get(0, 10);
        s.get(1, 10);
        s.from(0);
        s.size(0);
        s.size(1);
        s.free();
        s.height();
        s.word(0);
        s.down();
        s.order(5, 5);
        Check.same("stores", s.stores(), before);
    }

    // ---- promise 13: down

    static void promise13_down_aNewObject() {
        Check.isFalse("down", new FirmStore().down());
    }

    static void promise13_down_notByAnOrderAlone() {
        Check.isFalse("down", ordered().down());
    }

    static void promise13_down_behindACutInEachCallThatStores() {
        for (int t = 0; t <= 1; t++) {
            FirmStore s = new FirmStore();
            s.put(t, 5, 5);
            s.order(0, 0);
            s.put(t, 5, 6);
            Check.isTrue("put", s.down());
            s.recover();
            s.order(0, 0);
            s.remove(t, 5);
            Check.isTrue("remove", s.down());
        }
        FirmStore s = downed();
        s.recover();
        Check.isTrue("recover", s.down());
    }

    static void promise13_down_notBehindARecovery() {
        FirmStore s = Given.cutPut(Given.rising(6), 10, 0, 70);
        s.recover();
        Check.isFalse("down", s.down());
    }

    static void promise13_down_notBehindARefusedCall() {
        FirmStore s = ordered();
        s.order(0, 0);
        Check.throwsOf("put", Check.ARGUMENT, () -> s.put(2, 0, 0));
        Check.throwsOf("remove", Check.NONE, () -> s.remove(0, 11));
        Check.throwsOf("recover", Check.STATE, () -> s.recover());
        Check.isFalse("down", s.down());
    }
}
