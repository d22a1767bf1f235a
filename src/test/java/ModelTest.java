import java.util.Arrays;
import java.util.NoSuchElementException;
import java.util.Random;
import java.util.function.LongSupplier;

/**
 * Random runs of 512 calls, the same ones each time: class and model must agree in every answer.
 * Every second run ends early, and has calls left to look at all words.
 */
public final class ModelTest {
    private static final int RUNS = 12000;
    private static final int CALLS = 512;
    private static final int WORDS = 279;
    private static final long ARGUMENT = Long.MIN_VALUE;
    private static final long STATE = Long.MIN_VALUE + 1;
    private static final long NONE = Long.MIN_VALUE + 2;
    private static final int[] ODD = {-1, 1000, 2, Integer.MIN_VALUE, Integer.MAX_VALUE};

    private final Random random;
    private final String run;
    private final FirmStore store = new FirmStore();
    private final Model model = new Model();
    private final int keys;
    private final int treeShare;
    private final int removeShare;
    private final int orderShare;
    private final boolean looksAtAllWords;
    private int ascending = 0;

    private static int highest = 0;
    private static final int[] seen = new int[4];

    private ModelTest(int seed) {
        random = new Random(seed);
        run = "run " + seed + ": ";
        keys = new int[] {12, 40, 120, 300, 1000}[seed % 5];
        treeShare = new int[] {10, 100, 50, 80, 95, 98}[seed % 6];
        removeShare = new int[] {2, 10, 30}[seed % 3];
        orderShare = new int[] {0, 4, 12, 30}[seed % 4];
        looksAtAllWords = seed / 60 % 2 == 0;
    }

    public static void main(String[] args) {
        for (int seed = 0; seed < RUNS && !Check.anyWrong(); seed++) {
            new ModelTest(seed).go();
        }
        // A fourth level would take 22 blocks of level 0, 7 of level 1, 2 of level 2 and the root.
        Check.isTrue("some run reaches a tree of three levels", highest == 3);
        Check.isTrue("some put is FULL", seen[0] > 100);
        Check.isTrue("some put or remove is CUT", seen[1] > 100);
        Check.isTrue("some recovery is CUT", seen[2] > 100);
        Check.isTrue("some recovery stores", seen[3] > 100);
        Check.end();
    }

    private void go() {
        int steps = looksAtAllWords ? CALLS - WORDS : CALLS;
        for (int i = 0; i < steps && !Check.anyWrong(); i++) {
            step();
        }
        for (int a = 0; a < WORDS && looksAtAllWords; a++) {
            agree("word(" + a + ")", store.word(a), model.word(a));
        }
        highest = Math.max(highest, model.height());
    }

    private void step() {
        int dice = random.nextInt(100);
        if (dice < orderShare) {
            int n = random.nextInt(20) == 0 ? random.nextInt(80) - 10 : random.nextInt(1 + random.nextInt(45));
            int mask = random.nextInt(3) == 0 ? -random.nextInt(2) : random.nextInt();
            Check.isTrue(run + "order(" + n + ", " + mask + ")", store.order(n, mask) == model.order(n, mask));
        } else if (model.down() && dice < 60) {
            restore();
        } else if (dice < 85) {
            write();
        } else {
            look();
        }
    }

    private void restore() {
        long got = answer(() -> store.recover());
        agree("recover()", got, answer(() -> model.recover()));
        seen[2] += got == FirmStore.CUT ? 1 : 0;
        seen[3] += got > 0 ? 1 : 0;
    }

    private void write() {
        int t = part();
        int k = key();
        int v = random.nextInt();
        long got;
        if (random.nextInt(100) < removeShare) {
            got = answer(() -> store.remove(t, k));
            agree("remove(" + t + ", " + k + ")", got, answer(() -> model.remove(t, k)));
        } else {
            got = answer(() -> store.put(t, k, v));
            agree("put(" + t + ", " + k + ", " + v + ")", got, answer(() -> model.put(t, k, v)));
            seen[0] += got == FirmStore.FULL ? 1 : 0;
        }
        seen[1] += got == FirmStore.CUT ? 1 : 0;
    }

    private void look() {
        int t = part();
        int k = key();
        int a = random.nextInt(WORDS + 2) - 1;
        switch (random.nextInt(9)) {
            case 0 -> agree("get(" + t + ", " + k + ")", answer(() -> store.get(t, k)), answer(() -> model.get(t, k)));
            case 1 -> agree("from(" + k + ")", answer(() -> store.from(k)), answer(() -> model.from(k)));
            case 2 -> agree("size(" + t + ")", store.size(t), model.size(t));
            case 3 -> agree("free()", store.free(), model.free());
            case 4 -> agree("height()", store.height(), model.height());
            case 5 -> agree("word(" + a + ")", store.word(a), model.word(a));
            case 6 -> agree("stores()", store.stores(), model.stores());
            case 7 -> agree("down()", store.down() ? 1 : 0, model.down() ? 1 : 0);
            default -> agree("recover()", answer(() -> store.recover()), answer(() -> model.recover()));
        }
    }

    private int part() {
        if (random.nextInt(60) == 0) {
            return ODD[1 + random.nextInt(ODD.length - 1)];
        }
        return random.nextInt(100) < treeShare ? 0 : 1;
    }

    private int key() {
        int dice = random.nextInt(60);
        if (dice == 0) {
            return Arrays.stream(ODD).filter(k -> k != 2).toArray()[random.nextInt(ODD.length - 1)];
        }
        // Rising keys leave half full blocks behind, which makes the highest trees.
        if (keys == 300 && dice < 50) {
            ascending = (ascending + 1 + random.nextInt(3)) % 1000;
            return ascending;
        }
        return random.nextInt(keys);
    }

    private void agree(String call, long got, long due) {
        Check.same(run + call, got, due);
    }

    private static long answer(LongSupplier call) {
        try {
            return call.getAsLong();
        } catch (IllegalArgumentException e) {
            return ARGUMENT;
        } catch (IllegalStateException e) {
            return STATE;
        } catch (NoSuchElementException e) {
            return NONE;
        }
    }
}
