public final class QuorumDesk {
    private static final int MACHINES = 8;
    private static final int SETS = 256;
    private static final int ALL_MACHINES = 255;
    private static final int ROOM = 10;
    private static final int CELLS = ROOM * SETS;
    private static final int NEVER_FAILS = 9;

    // A family is a row of SETS cells, one for each set, true where the set belongs to it.
    // Rows lie from the bottom of the stack up, so that putting on and taking off moves no row.
    private final boolean[] belongs = new boolean[CELLS];
    private int families;

    public QuorumDesk() {
        families = 0;
    }

    public int atLeast(int count, int set) {
        if (count < 0 || count > MACHINES || families >= ROOM) {
            return -1;
        }
        int row = families * SETS;
        for (int s = 0; s < SETS; s++) {
            int common = machinesIn(s & set);
            belongs[row + s] = common >= count;
        }
        families++;
        return families;
    }

    public int join(boolean all) {
        if (families < 2) {
            return -1;
        }
        int upper = rowOf(0);
        int lower = rowOf(1);
        for (int s = 0; s < SETS; s++) {
            boolean inUpper = belongs[upper + s];
            boolean inLower = belongs[lower + s];
            belongs[lower + s] = all ? inUpper && inLower : inUpper || inLower;
        }
        families--;
        return families;
    }

    // A set misses some set of a family just when it misses the largest set it could miss, its
    // complement, because a family holds all larger sets too. Each pair of complements is
    // rewritten at once, so that no cell is read after it has changed.
    public int dual() {
        if (families < 1) {
            return -1;
        }
        int row = rowOf(0);
        for (int s = 0; s < SETS / 2; s++) {
            int rest = ALL_MACHINES - s;
            boolean setBelongs = belongs[row + s];
            boolean restBelongs = belongs[row + rest];
            belongs[row + s] = !restBelongs;
            belongs[row + rest] = !setBelongs;
        }
        return families;
    }

    // The row can be rewritten in place: a cell that is read holds all machines of the given set
    // already, and such a cell keeps its value.
    public int given(int set) {
        if (families < 1) {
            return -1;
        }
        int row = rowOf(0);
        int added = set & ALL_MACHINES;
        for (int s = 0; s < SETS; s++) {
            belongs[row + s] = belongs[row + (s | added)];
        }
        return families;
    }

    public int copy(int k) {
        if (!isFamily(k) || families >= ROOM) {
            return -1;
        }
        int from = rowOf(k);
        int to = families * SETS;
        for (int s = 0; s < SETS; s++) {
            belongs[to + s] = belongs[from + s];
        }
        families++;
        return families;
    }

    public int drop() {
        if (families < 1) {
            return -1;
        }
        families--;
        return families;
    }

    public int enough(int k, int set) {
        if (!isFamily(k)) {
            return -1;
        }
        int row = rowOf(k);
        return belongs[row + (set & ALL_MACHINES)] ? 1 : 0;
    }

    public int leastSets(int k) {
        if (!isFamily(k)) {
            return -1;
        }
        int row = rowOf(k);
        int found = 0;
        for (int s = 0; s < SETS; s++) {
            if (isLeast(row, s)) {
                found++;
            }
        }
        return found;
    }

    public int leastSet(int k, int index) {
        if (!isFamily(k) || index < 0) {
            return -1;
        }
        int row = rowOf(k);
        int lesser = 0;
        for (int s = 0; s < SETS; s++) {
            if (isLeast(row, s)) {
                if (lesser == index) {
                    return s;
                }
                lesser++;
            }
        }
        return -1;
    }

    // Two families fail to meet just when some set of the one has its complement in the other,
    // because a family holds all larger sets too.
    public int meet(int k, int l) {
        if (!isFamily(k) || !isFamily(l)) {
            return -1;
        }
        int first = rowOf(k);
        int second = rowOf(l);
        for (int s = 0; s < SETS; s++) {
            if (belongs[first + s] && belongs[second + ALL_MACHINES - s]) {
                return 0;
            }
        }
        return 1;
    }

    public int withstand(int k) {
        if (!isFamily(k)) {
            return -1;
        }
        int row = rowOf(k);
        int fewest = NEVER_FAILS;
        for (int taken = 0; taken < SETS; taken++) {
            int size = machinesIn(taken);
            if (!belongs[row + ALL_MACHINES - taken] && size < fewest) {
                fewest = size;
            }
        }
        return fewest;
    }

    private boolean isFamily(int k) {
        return k >= 0 && k < families;
    }

    private int rowOf(int k) {
        return (families - 1 - k) * SETS;
    }

    // Taking away one machine at a time is enough: if a smaller set belonged to the family, so
    // would every set between it and this one.
    private boolean isLeast(int row, int set) {
        if (!belongs[row + set]) {
            return false;
        }
        for (int m = 0; m < MACHINES; m++) {
            int machine = 1 << m;
            if ((set & machine) != 0 && belongs[row + set - machine]) {
                return false;
            }
        }
        return true;
    }

    private static int machinesIn(int set) {
        int count = 0;
        for (int m = 0; m < MACHINES; m++) {
            count += (set >> m) & 1;
        }
        return count;
    }
}
