import java.util.function.IntPredicate;
import java.util.function.Supplier;

/** For each promise: ordinary inputs, the edges that the document names, and wrong inputs. */
public final class PromiseTest {
    private PromiseTest() {
    }

    public static void main(String[] args) {
        newObject();
        atLeast();
        join();
        dual();
        given();
        copy();
        drop();
        enough();
        leastSets();
        leastSet();
        meet();
        withstand();
        Due.end();
    }

    // Stacks that many tests begin from.

    private static QuorumDesk empty() {
        return new QuorumDesk();
    }

    private static QuorumDesk one(int count, int set) {
        QuorumDesk x = new QuorumDesk();
        x.atLeast(count, set);
        return x;
    }

    private static QuorumDesk two(int count, int set, int topCount, int topSet) {
        QuorumDesk x = one(count, set);
        x.atLeast(topCount, topSet);
        return x;
    }

    private static QuorumDesk allSets() {
        return one(0, 0);
    }

    private static QuorumDesk noSet() {
        return one(1, 0);
    }

    private static QuorumDesk full() {
        return Stacks.ladder(10);
    }

    /** Least sets 3 (machines 0 and 1) and 4 (machine 2). */
    private static QuorumDesk threeOrFour() {
        QuorumDesk x = two(2, 3, 1, 4);
        x.join(false);
        return x;
    }

    private static boolean has(int set, int machines) {
        return (set & machines) == machines;
    }

    private static void family(String name, Supplier<QuorumDesk> made, int k, IntPredicate due) {
        StringBuilder want = new StringBuilder();
        for (int set = 0; set < 256; set++) {
            want.append(due.test(set) ? 1 : 0);
        }
        String got = Due.familyOf(made, k);
        if (!got.equals(want.toString())) {
            Due.fault(name + ": family " + k + " is " + got + ", due is " + want);
        }
    }

    private static void newObject() {
        Due.due("new: drop()", empty().drop(), -1);
        Due.due("new: enough(0, 255)", empty().enough(0, 255), -1);
        Due.due("new: atLeast(0, 0)", empty().atLeast(0, 0), 1);
        QuorumDesk used = full();
        Due.due("new beside a full one: drop()", empty().drop(), -1);
        Due.due("full one: drop()", used.drop(), 9);
    }

    private static void atLeast() {
        Due.due("atLeast(2, 7)", empty().atLeast(2, 7), 1);
        Due.due("atLeast on one", one(2, 7).atLeast(3, 248), 2);
        family("atLeast(2, 7)", () -> one(2, 7), 0, s -> has(s, 3) || has(s, 5) || has(s, 6));
        family("atLeast(1, 130)", () -> one(1, 130), 0, s -> has(s, 2) || has(s, 128));
        family("atLeast(0, 0)", () -> one(0, 0), 0, s -> true);
        family("atLeast(0, 255)", () -> one(0, 255), 0, s -> true);
        family("atLeast(1, 0)", () -> one(1, 0), 0, s -> false);
        family("atLeast(3, 3)", () -> one(3, 3), 0, s -> false);
        family("atLeast(8, 255)", () -> one(8, 255), 0, s -> s == 255);
        family("atLeast(8, 127)", () -> one(8, 127), 0, s -> false);
        family("atLeast(8, -1)", () -> one(8, -1), 0, s -> s == 255);
        family("atLeast(1, 256)", () -> one(1, 256), 0, s -> false);
        family("atLeast(2, 0x7fffff03)", () -> one(2, 0x7fffff03), 0, s -> has(s, 3));
        family("atLeast(1, MIN_VALUE)", () -> one(1, Integer.MIN_VALUE), 0, s -> false);
        family("below atLeast", () -> two(2, 3, 1, 4), 1, s -> has(s, 3));
        family("atLeast over a dropped family", PromiseTest::putOverDropped, 0, s -> has(s, 3));
        Due.refused("atLeast(-1, 0) on one", () -> one(2, 7), x -> x.atLeast(-1, 0));
        Due.refused("atLeast(9, 255) on one", () -> one(2, 7), x -> x.atLeast(9, 255));
        Due.refused("atLeast(1, 1) on ten", PromiseTest::full, x -> x.atLeast(1, 1));
        fillsToTen();
    }

    private static QuorumDesk putOverDropped() {
        QuorumDesk x = allSets();
        x.drop();
        x.atLeast(2, 3);
        return x;
    }

    private static void fillsToTen() {
        QuorumDesk x = empty();
        for (int n = 1; n <= 10; n++) {
            Due.due("atLeast number " + n, x.atLeast(1, n), n);
        }
        Due.due("atLeast number 11", x.atLeast(1, 11), -1);
        x.drop();
        Due.due("atLeast after a drop from ten", x.atLeast(1, 11), 10);
    }

    private static void join() {
        Due.due("join(true) on two", two(1, 1, 1, 2).join(true), 1);
        Due.due("join(false) on two", two(1, 1, 1, 2).join(false), 1);
        Due.due("join(true) on ten", full().join(true), 9);
        family("1 join(true) 2", () -> joined(1, 1, 1, 2, true), 0, s -> has(s, 3));
        family("1 join(false) 2", () -> joined(1, 1, 1, 2, false), 0, s -> has(s, 1) || has(s, 2));
        family("all join(true) 3", () -> joined(0, 0, 2, 3, true), 0, s -> has(s, 3));
        family("3 join(true) all", () -> joined(2, 3, 0, 0, true), 0, s -> has(s, 3));
        family("all join(false) 3", () -> joined(0, 0, 2, 3, false), 0, s -> true);
        family("none join(true) 3", () -> joined(1, 0, 2, 3, true), 0, s -> false);
        family("none join(false) 3", () -> joined(1, 0, 2, 3, false), 0, s -> has(s, 3));
        family("3 join(false) none", () -> joined(2, 3, 1, 0, false), 0, s -> has(s, 3));
        family("below join", PromiseTest::joinedAboveOne, 1, s -> has(s, 64));
        family("join above one", PromiseTest::joinedAboveOne, 0, s -> has(s, 3));
        for (boolean all : new boolean[] {true, false}) {
            Due.refused("join(" + all + ") on none", PromiseTest::empty, x -> x.join(all));
            Due.refused("join(" + all + ") on one", () -> one(2, 7), x -> x.join(all));
        }
    }

    private static QuorumDesk joined(int count, int set, int topCount, int topSet, boolean all) {
        QuorumDesk x = two(count, set, topCount, topSet);
        x.join(all);
        return x;
    }

    private static QuorumDesk joinedAboveOne() {
        QuorumDesk x = two(1, 64, 1, 1);
        x.atLeast(1, 2);
        x.join(true);
        return x;
    }

    private static void dual() {
        Due.due("dual() on one", one(2, 7).dual(), 1);
        Due.due("dual() on ten", full().dual(), 10);
        family("dual of all sets", () -> dualOf(allSets()), 0, s -> false);
        family("dual of no set", () -> dualOf(noSet()), 0, s -> true);
        family("dual of all eight", () -> dualOf(one(8, 255)), 0, s -> s != 0);
        family("dual of any one", () -> dualOf(one(1, 255)), 0, s -> s == 255);
        family("dual of 2 of 3", () -> dualOf(one(2, 7)), 0, s -> Integer.bitCount(s & 7) >= 2);
        family("dual of 4 of 8", () -> dualOf(one(4, 255)), 0, s -> Integer.bitCount(s) >= 5);
        family("dual of 3, 4", () -> dualOf(threeOrFour()), 0, s -> has(s, 5) || has(s, 6));
        family("dual of dual of 3, 4", () -> dualOf(dualOf(threeOrFour())), 0, s -> has(s, 3) || has(s, 4));
        family("below dual", () -> dualOf(two(2, 3, 1, 0)), 1, s -> has(s, 3));
        Due.refused("dual() on none", PromiseTest::empty, QuorumDesk::dual);
    }

    private static QuorumDesk dualOf(QuorumDesk x) {
        x.dual();
        return x;
    }

    private static void given() {
        Due.due("given(3) on one", one(2, 7).given(3), 1);
        Due.due("given(3) on ten", full().given(3), 10);
        family("2 of 3 given(1)", () -> givenTo(one(2, 7), 1), 0, s -> has(s, 2) || has(s, 4));
        family("2 of 3 given(3)", () -> givenTo(one(2, 7), 3), 0, s -> true);
        family("2 of 3 given(8)", () -> givenTo(one(2, 7), 8), 0, s -> Integer.bitCount(s & 7) >= 2);
        family("2 of 3 given(0)", () -> givenTo(one(2, 7), 0), 0, s -> Integer.bitCount(s & 7) >= 2);
        family("2 of 3 given(256)", () -> givenTo(one(2, 7), 256), 0, s -> Integer.bitCount(s & 7) >= 2);
        family("2 of 3 given(257)", () -> givenTo(one(2, 7), 257), 0, s -> has(s, 2) || has(s, 4));
        family("8 of 8 given(-1)", () -> givenTo(one(8, 255), -1), 0, s -> true);
        family("8 of 8 given(-2)", () -> givenTo(one(8, 255), -2), 0, s -> has(s, 1));
        family("8 of 8 given(MIN_VALUE)", () -> givenTo(one(8, 255), Integer.MIN_VALUE), 0, s -> s == 255);
        family("all sets given(7)", () -> givenTo(allSets(), 7), 0, s -> true);
        family("no set given(255)", () -> givenTo(noSet(), 255), 0, s -> false);
        family("below given", () -> givenTo(two(2, 3, 1, 4), 7), 1, s -> has(s, 3));
        Due.refused("given(0) on none", PromiseTest::empty, x -> x.given(0));
        Due.refused("given(-1) on none", PromiseTest::empty, x -> x.given(-1));
    }

    private static QuorumDesk givenTo(QuorumDesk x, int set) {
        x.given(set);
        return x;
    }

    private static void copy() {
        Due.due("copy(0) on one", one(2, 7).copy(0), 2);
        Due.due("copy(1) on two", two(2, 3, 1, 4).copy(1), 3);
        family("copy(0)", () -> copyOf(two(2, 3, 1, 4), 0), 0, s -> has(s, 4));
        family("copy(1)", () -> copyOf(two(2, 3, 1, 4), 1), 0, s -> has(s, 3));
        family("below copy(1)", () -> copyOf(two(2, 3, 1, 4), 1), 1, s -> has(s, 4));
        family("two below copy(1)", () -> copyOf(two(2, 3, 1, 4), 1), 2, s -> has(s, 3));
        family("copy of all sets", () -> copyOf(allSets(), 0), 0, s -> true);
        family("copy of no set", () -> copyOf(noSet(), 0), 0, s -> false);
        family("the copied one after dual of the copy", () -> dualOf(copyOf(threeOrFour(), 0)), 1,
            s -> has(s, 3) || has(s, 4));
        QuorumDesk nine = full();
        nine.drop();
        Due.due("copy(8) on nine", nine.copy(8), 10);
        Due.due("copied from the bottom of nine: withstand(0)", nine.withstand(0), 0);
        Due.refused("copy(0) on none", PromiseTest::empty, x -> x.copy(0));
        Due.refused("copy(1) on one", () -> one(2, 7), x -> x.copy(1));
        Due.refused("copy(2) on two", () -> two(2, 3, 1, 4), x -> x.copy(2));
        Due.refused("copy(0) on ten", PromiseTest::full, x -> x.copy(0));
        Due.refused("copy(9) on ten", PromiseTest::full, x -> x.copy(9));
        for (int k : Stacks.FAR) {
            Due.refused("copy(" + k + ") on two", () -> two(2, 3, 1, 4), x -> x.copy(k));
        }
    }

    private static QuorumDesk copyOf(QuorumDesk x, int k) {
        x.copy(k);
        return x;
    }

    private static void drop() {
        QuorumDesk x = full();
        for (int left = 9; left >= 0; left--) {
            Due.due("drop() down to " + left, x.drop(), left);
            if (left > 0) {
                Due.due("top after drop() to " + left + ": withstand(0)", x.withstand(0), left - 1);
            }
        }
        Due.due("drop() on none left", x.drop(), -1);
        Due.due("atLeast after it", x.atLeast(1, 1), 1);
        Due.refused("drop() on none", PromiseTest::empty, QuorumDesk::drop);
    }

    private static void enough() {
        Due.due("2 of 3: enough(0, 3)", one(2, 7).enough(0, 3), 1);
        Due.due("2 of 3: enough(0, 255)", one(2, 7).enough(0, 255), 1);
        Due.due("2 of 3: enough(0, 252)", one(2, 7).enough(0, 252), 0);
        Due.due("2 of 3: enough(0, 0)", one(2, 7).enough(0, 0), 0);
        Due.due("2 of 3: enough(0, 256 + 3)", one(2, 7).enough(0, 259), 1);
        Due.due("2 of 3: enough(0, 256 + 4)", one(2, 7).enough(0, 260), 0);
        Due.due("2 of 3: enough(0, -1)", one(2, 7).enough(0, -1), 1);
        Due.due("2 of 3: enough(0, -8)", one(2, 7).enough(0, -8), 0);
        Due.due("2 of 3: enough(0, MIN_VALUE)", one(2, 7).enough(0, Integer.MIN_VALUE), 0);
        Due.due("2 of 3: enough(0, MAX_VALUE)", one(2, 7).enough(0, Integer.MAX_VALUE), 1);
        Due.due("all sets: enough(0, 0)", allSets().enough(0, 0), 1);
        Due.due("all sets: enough(0, 256)", allSets().enough(0, 256), 1);
        Due.due("no set: enough(0, 255)", noSet().enough(0, 255), 0);
        Due.due("two: enough(0, 4)", two(2, 3, 1, 4).enough(0, 4), 1);
        Due.due("two: enough(1, 4)", two(2, 3, 1, 4).enough(1, 4), 0);
        Due.due("two: enough(1, 3)", two(2, 3, 1, 4).enough(1, 3), 1);
        Due.due("ten: enough(9, 255)", full().enough(9, 255), 0);
        Due.due("ten: enough(8, 1)", full().enough(8, 1), 1);
        Due.due("ten: enough(8, 254)", full().enough(8, 254), 0);
        Due.due("ten: enough(0, 0)", full().enough(0, 0), 1);
        Due.unchanged("enough(1, 3)", () -> two(2, 3, 1, 4), x -> x.enough(1, 3));
        Due.refused("enough(0, 0) on none", PromiseTest::empty, x -> x.enough(0, 0));
        Due.refused("enough(1, 3) on one", () -> one(2, 7), x -> x.enough(1, 3));
        Due.refused("enough(10, 1) on ten", PromiseTest::full, x -> x.enough(10, 1));
        for (int k : Stacks.FAR) {
            Due.refused("enough(" + k + ", 3) on two", () -> two(2, 3, 1, 4), x -> x.enough(k, 3));
        }
    }

    private static void leastSets() {
        Due.due("2 of 3: leastSets(0)", one(2, 7).leastSets(0), 3);
        Due.due("4 of 8: leastSets(0)", one(4, 255).leastSets(0), 70);
        Due.due("8 of 8: leastSets(0)", one(8, 255).leastSets(0), 1);
        Due.due("1 of 8: leastSets(0)", one(1, 255).leastSets(0), 8);
        Due.due("all sets: leastSets(0)", allSets().leastSets(0), 1);
        Due.due("no set: leastSets(0)", noSet().leastSets(0), 0);
        Due.due("3, 4: leastSets(0)", threeOrFour().leastSets(0), 2);
        Due.due("1 or (1 and 2): leastSets(0)", joined(1, 1, 2, 3, false).leastSets(0), 1);
        Due.due("two: leastSets(1)", two(2, 7, 1, 255).leastSets(1), 3);
        Due.unchanged("leastSets(1)", () -> two(2, 7, 1, 255), x -> x.leastSets(1));
        Due.refused("leastSets(0) on none", PromiseTest::empty, x -> x.leastSets(0));
        Due.refused("leastSets(1) on one", () -> one(2, 7), x -> x.leastSets(1));
        Due.refused("leastSets(10) on ten", PromiseTest::full, x -> x.leastSets(10));
        for (int k : Stacks.FAR) {
            Due.refused("leastSets(" + k + ") on two", () -> two(2, 3, 1, 4), x -> x.leastSets(k));
        }
    }

    private static void leastSet() {
        Due.due("2 of 3: leastSet(0, 0)", one(2, 7).leastSet(0, 0), 3);
        Due.due("2 of 3: leastSet(0, 1)", one(2, 7).leastSet(0, 1), 5);
        Due.due("2 of 3: leastSet(0, 2)", one(2, 7).leastSet(0, 2), 6);
        Due.due("4 of 8: leastSet(0, 0)", one(4, 255).leastSet(0, 0), 15);
        Due.due("4 of 8: leastSet(0, 69)", one(4, 255).leastSet(0, 69), 240);
        Due.due("8 of 8: leastSet(0, 0)", one(8, 255).leastSet(0, 0), 255);
        Due.due("all sets: leastSet(0, 0)", allSets().leastSet(0, 0), 0);
        Due.due("3, 4: leastSet(0, 0)", threeOrFour().leastSet(0, 0), 3);
        Due.due("3, 4: leastSet(0, 1)", threeOrFour().leastSet(0, 1), 4);
        Due.due("two: leastSet(1, 2)", two(2, 7, 1, 255).leastSet(1, 2), 6);
        Due.unchanged("leastSet(1, 2)", () -> two(2, 7, 1, 255), x -> x.leastSet(1, 2));
        Due.refused("2 of 3: leastSet(0, 3)", () -> one(2, 7), x -> x.leastSet(0, 3));
        Due.refused("4 of 8: leastSet(0, 70)", () -> one(4, 255), x -> x.leastSet(0, 70));
        Due.refused("all sets: leastSet(0, 1)", PromiseTest::allSets, x -> x.leastSet(0, 1));
        Due.refused("no set: leastSet(0, 0)", PromiseTest::noSet, x -> x.leastSet(0, 0));
        Due.refused("leastSet(0, 0) on none", PromiseTest::empty, x -> x.leastSet(0, 0));
        Due.refused("leastSet(1, 0) on one", () -> one(2, 7), x -> x.leastSet(1, 0));
        Due.refused("leastSet(10, 0) on ten", PromiseTest::full, x -> x.leastSet(10, 0));
        for (int far : Stacks.FAR) {
            Due.refused("leastSet(" + far + ", 0) on two", () -> two(2, 3, 1, 4), x -> x.leastSet(far, 0));
            Due.refused("leastSet(0, " + far + ") on two", () -> two(2, 3, 1, 4), x -> x.leastSet(0, far));
        }
    }

    private static void meet() {
        Due.due("2 of 3: meet(0, 0)", one(2, 7).meet(0, 0), 1);
        Due.due("4 of 8: meet(0, 0)", one(4, 255).meet(0, 0), 0);
        Due.due("5 of 8: meet(0, 0)", one(5, 255).meet(0, 0), 1);
        Due.due("4 of 8 and 5 of 8: meet(0, 1)", two(4, 255, 5, 255).meet(0, 1), 1);
        Due.due("4 of 8 and 5 of 8: meet(1, 0)", two(4, 255, 5, 255).meet(1, 0), 1);
        Due.due("4 of 8 and 5 of 8: meet(1, 1)", two(4, 255, 5, 255).meet(1, 1), 0);
        Due.due("3 of 8 and 5 of 8: meet(0, 1)", two(3, 255, 5, 255).meet(0, 1), 0);
        Due.due("0 and 1 against 2: meet(0, 1)", two(2, 3, 1, 4).meet(0, 1), 0);
        Due.due("0 and 1 against 1: meet(0, 1)", two(2, 3, 1, 2).meet(0, 1), 1);
        Due.due("0 and 1 against 1: meet(1, 0)", two(2, 3, 1, 2).meet(1, 0), 1);
        Due.due("all sets: meet(0, 0)", allSets().meet(0, 0), 0);
        Due.due("no set: meet(0, 0)", noSet().meet(0, 0), 1);
        Due.due("no set and all sets: meet(0, 1)", two(1, 0, 0, 0).meet(0, 1), 1);
        Due.due("no set and all sets: meet(1, 0)", two(1, 0, 0, 0).meet(1, 0), 1);
        Due.due("8 of 8 and all sets: meet(0, 1)", two(8, 255, 0, 0).meet(0, 1), 0);
        Due.due("8 of 8 and any one: meet(0, 1)", two(8, 255, 1, 255).meet(0, 1), 1);
        Due.due("8 of 8 and any one: meet(1, 0)", two(8, 255, 1, 255).meet(1, 0), 1);
        Due.unchanged("meet(0, 1)", () -> two(4, 255, 5, 255), x -> x.meet(0, 1));
        Due.refused("meet(0, 0) on none", PromiseTest::empty, x -> x.meet(0, 0));
        Due.refused("meet(0, 1) on one", () -> one(2, 7), x -> x.meet(0, 1));
        Due.refused("meet(1, 0) on one", () -> one(2, 7), x -> x.meet(1, 0));
        Due.refused("meet(9, 10) on ten", PromiseTest::full, x -> x.meet(9, 10));
        Due.refused("meet(10, 9) on ten", PromiseTest::full, x -> x.meet(10, 9));
        for (int far : Stacks.FAR) {
            Due.refused("meet(" + far + ", 0) on two", () -> two(2, 3, 1, 4), x -> x.meet(far, 0));
            Due.refused("meet(0, " + far + ") on two", () -> two(2, 3, 1, 4), x -> x.meet(0, far));
        }
    }

    private static void withstand() {
        for (int count = 1; count <= 8; count++) {
            Due.due(count + " of 8: withstand(0)", one(count, 255).withstand(0), 9 - count);
        }
        Due.due("2 of 3: withstand(0)", one(2, 7).withstand(0), 2);
        Due.due("machine 7: withstand(0)", one(1, 128).withstand(0), 1);
        Due.due("0 or 1, and 7: withstand(0)", joined(1, 3, 1, 128, true).withstand(0), 1);
        Due.due("3, 4: withstand(0)", threeOrFour().withstand(0), 2);
        Due.due("all sets: withstand(0)", allSets().withstand(0), 9);
        Due.due("no set: withstand(0)", noSet().withstand(0), 0);
        Due.due("two: withstand(1)", two(2, 7, 1, 1).withstand(1), 2);
        Due.unchanged("withstand(1)", () -> two(2, 7, 1, 1), x -> x.withstand(1));
        Due.refused("withstand(0) on none", PromiseTest::empty, x -> x.withstand(0));
        Due.refused("withstand(1) on one", () -> one(2, 7), x -> x.withstand(1));
        Due.refused("withstand(10) on ten", PromiseTest::full, x -> x.withstand(10));
        for (int k : Stacks.FAR) {
            Due.refused("withstand(" + k + ") on two", () -> two(2, 3, 1, 4), x -> x.withstand(k));
        }
    }
}
