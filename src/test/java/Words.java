/** What the words of the memory must be. */
final class Words {
    private Words() {
    }

    static long entry(int k, int v) {
        return (k + 1) * 4294967296L + (v < 0 ? v + 4294967296L : v);
    }

    /** The entries of keys of Given.rising. */
    static long[] tens(int... tens) {
        long[] entries = new long[tens.length];
        for (int i = 0; i < tens.length; i++) {
            entries[i] = entry(10 * tens[i], tens[i]);
        }
        return entries;
    }

    /** Nine words: level, next, low, and six places; those not given are 0. */
    static void block(FirmStore s, int b, long... words) {
        for (int i = 0; i < 9; i++) {
            Check.same("block " + b + ", word " + i, s.word(9 * b + i), i < words.length ? words[i] : 0);
        }
    }

    /** The six places; those not given are 0. */
    static void row(FirmStore s, int b, long... entries) {
        for (int p = 0; p < 6; p++) {
            Check.same("block " + b + ", place " + p, s.word(9 * b + 3 + p), p < entries.length ? entries[p] : 0);
        }
    }

    /**
     * Both have the same words and answers. One object's words are held against those of another,
     * and not against its own of before, since 512 calls would not do for that.
     */
    static void alike(FirmStore one, FirmStore other) {
        for (int a = 0; a <= 278; a++) {
            Check.same("word " + a, one.word(a), other.word(a));
        }
        Check.same("stores", one.stores(), other.stores());
        Check.isTrue("down", one.down() == other.down());
    }
}
