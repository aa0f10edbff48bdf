/** What tests of every height of the stack begin from, and the wrong numbers they are asked with. */
final class Stacks {
    /**
     * Out of range wherever a number of a family, a count or an index is due. The powers of two are
     * there because they would pass if a number were cut to its lowest bits, or if a place in an
     * array were reckoned from it, before it is looked at.
     */
    static final int[] FAR = {
        Integer.MIN_VALUE, Integer.MIN_VALUE + 1, -(1 << 24), -(1 << 16), -256, -9, -2, -1,
        256, 257, 264, 1 << 16, 1 << 24, (1 << 24) + 1, Integer.MAX_VALUE - 1, Integer.MAX_VALUE};

    private Stacks() {
    }

    /**
     * So many families (0 to 10), no two of them alike. Counted from 0 at the bottom, family i
     * answers i to withstand: any of the lowest i machines is enough for it, and the last of ten
     * holds all sets.
     */
    static QuorumDesk ladder(int height) {
        QuorumDesk x = new QuorumDesk();
        for (int i = 0; i < height; i++) {
            x.atLeast(i == 9 ? 0 : 1, (1 << i) - 1);
        }
        return x;
    }

    /** Whether the set belongs to family i, counted from 0 at the bottom, of the ladder. */
    static boolean inLadder(int i, int set) {
        return i == 9 || (set & ((1 << i) - 1)) != 0;
    }
}
