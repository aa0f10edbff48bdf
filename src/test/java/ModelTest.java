/**
 * Runs of mixed calls on the class and on the model. The numbers that steer the runs come from a
 * fixed rule, so that every run of the test is the same one.
 */
public final class ModelTest {
    private static final int CALLS = 512;
    private static final int RUNS = 400;
    private static final int[] FAR = {Integer.MIN_VALUE, Integer.MIN_VALUE + 9, -2, -1, 10, 11, 256, Integer.MAX_VALUE};

    private long seed;

    private ModelTest(long seed) {
        this.seed = seed;
    }

    public static void main(String[] args) {
        everyAtLeast();
        for (int run = 1; run <= RUNS; run++) {
            new ModelTest(run).run(run);
        }
        Due.end();
    }

    /** Every family that atLeast can make: its members, its least sets and what it withstands. */
    private static void everyAtLeast() {
        for (int count = 0; count <= 8; count++) {
            for (int set = 0; set < 256; set++) {
                QuorumDesk x = new QuorumDesk();
                Model model = new Model();
                String name = "atLeast(" + count + ", " + set + ")";
                Due.due(name, x.atLeast(count, set), model.atLeast(count, set));
                for (int s = 0; s < 256; s++) {
                    Due.due(name + " enough(0, " + s + ")", x.enough(0, s), model.enough(0, s));
                }
                Due.due(name + " leastSets(0)", x.leastSets(0), model.leastSets(0));
                Due.due(name + " withstand(0)", x.withstand(0), model.withstand(0));
                Due.due(name + " meet(0, 0)", x.meet(0, 0), model.meet(0, 0));
            }
        }
    }

    private int below(int bound) {
        seed = seed * 6364136223846793005L + 1442695040888963407L;
        return (int) ((seed >>> 33) % bound);
    }

    /** Mostly a family that is there, at times the first that is not, at times one far off. */
    private int familyNumber(Model model) {
        int kind = below(20);
        if (kind == 0) {
            return FAR[below(FAR.length)];
        }
        return kind == 1 ? model.families() : below(Math.max(1, model.families()));
    }

    /** Every fourth one has bits above the eight lowest. */
    private int set() {
        int eight = below(256);
        return below(4) == 0 ? eight | (below(1 << 24) << 8) : eight;
    }

    private int count() {
        int kind = below(20);
        return kind == 0 ? FAR[below(FAR.length)] : kind == 1 ? 9 : kind < 14 ? 1 + below(4) : below(9);
    }

    private int index(Model model, int k) {
        int kind = below(10);
        int least = model.leastSets(k);
        if (kind == 0) {
            return FAR[below(FAR.length)];
        }
        return kind == 1 ? least : below(Math.max(1, least));
    }

    private void run(int run) {
        QuorumDesk x = new QuorumDesk();
        Model model = new Model();
        // Runs lean to growing or to shrinking, so that full and empty stacks are both met often.
        int lean = run % 3;
        for (int call = 1; call <= CALLS; call++) {
            String where = "run " + run + ", call " + call + ": ";
            if (below(2) == 0) {
                ask(where, x, model);
            } else {
                change(where, x, model, lean);
            }
        }
    }

    private void change(String where, QuorumDesk x, Model model, int lean) {
        int kind = below(12);
        int set = set();
        int k = familyNumber(model);
        int count = count();
        boolean all = below(2) == 0;
        if (kind < 3 + lean) {
            Due.due(where + "atLeast(" + count + ", " + set + ")", x.atLeast(count, set), model.atLeast(count, set));
        } else if (kind < 7) {
            Due.due(where + "join(" + all + ")", x.join(all), model.join(all));
        } else if (kind == 7) {
            Due.due(where + "dual()", x.dual(), model.dual());
        } else if (kind == 8) {
            int few = set & set();
            Due.due(where + "given(" + few + ")", x.given(few), model.given(few));
        } else if (kind < 11) {
            Due.due(where + "copy(" + k + ")", x.copy(k), model.copy(k));
        } else {
            Due.due(where + "drop()", x.drop(), model.drop());
        }
    }

    private void ask(String where, QuorumDesk x, Model model) {
        int kind = below(5);
        int set = set();
        int k = familyNumber(model);
        int l = familyNumber(model);
        if (kind == 0) {
            Due.due(where + "enough(" + k + ", " + set + ")", x.enough(k, set), model.enough(k, set));
        } else if (kind == 1) {
            Due.due(where + "leastSets(" + k + ")", x.leastSets(k), model.leastSets(k));
        } else if (kind == 2) {
            int index = index(model, k);
            Due.due(where + "leastSet(" + k + ", " + index + ")", x.leastSet(k, index), model.leastSet(k, index));
        } else if (kind == 3) {
            Due.due(where + "meet(" + k + ", " + l + ")", x.meet(k, l), model.meet(k, l));
        } else {
            Due.due(where + "withstand(" + k + ")", x.withstand(k), model.withstand(k));
        }
    }
}
