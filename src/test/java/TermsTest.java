import java.util.function.Consumer;
import java.util.function.ToIntFunction;

/**
 * The sentences of "Terms" and "What it is" that name a boundary case for every promise, each in a
 * method of its own with the sentence above it. Stacks of every height from none to ten are tried.
 */
public final class TermsTest {
    private static final int ROOM = 10;
    private static final int CALLS = 512;
    private static final int[] HIGH_BITS = {
        1 << 8, 1 << 16, 1 << 24, Integer.MIN_VALUE, 0x0000ff00, 0x7fffff00, 0xffffff00};

    private TermsTest() {
    }

    public static void main(String[] args) {
        eightLowestBits();
        atMostTen();
        numberedFromTheTop();
        emptyAtTheStart();
        for (int height = 0; height <= ROOM; height++) {
            tooFewFamilies(height);
            noSuchFamily(height);
            countOutOfRange(height);
            indexOutOfRange(height);
        }
        noRoom();
        refusedForTwoReasons();
        refusedOneAfterAnother();
        usedFor512Calls();
        Due.end();
    }

    private static void refused(String call, int height, ToIntFunction<QuorumDesk> doCall) {
        Due.refused(call + " on " + height, () -> Stacks.ladder(height), doCall);
    }

    // "of a set argument only the eight lowest bits are looked at"

    private static void eightLowestBits() {
        for (int high : HIGH_BITS) {
            for (int set = 0; set < 256; set++) {
                int same = set;
                int wide = set | high;
                sameState("atLeast(2, " + wide + ")", x -> x.atLeast(2, same), x -> x.atLeast(2, wide));
                sameState("given(" + wide + ")", x -> twoOfEight(x).given(same), x -> twoOfEight(x).given(wide));
                QuorumDesk x = twoOfEight(new QuorumDesk());
                Due.due("2 of 8: enough(0, " + wide + ")", x.enough(0, wide), x.enough(0, same));
            }
        }
    }

    private static QuorumDesk twoOfEight(QuorumDesk x) {
        x.atLeast(2, 255);
        return x;
    }

    private static void sameState(String call, Consumer<QuorumDesk> plain, Consumer<QuorumDesk> wide) {
        String due = Due.stateOf(() -> after(plain));
        if (!Due.stateOf(() -> after(wide)).equals(due)) {
            Due.fault(call + " looks at more than the eight lowest bits");
        }
    }

    private static QuorumDesk after(Consumer<QuorumDesk> calls) {
        QuorumDesk x = new QuorumDesk();
        calls.accept(x);
        return x;
    }

    // "Families are kept on a STACK of at most 10"

    private static void atMostTen() {
        for (int height = 0; height < ROOM; height++) {
            Due.due("atLeast(1, 1) on " + height, Stacks.ladder(height).atLeast(1, 1), height + 1);
            if (height > 0) {
                Due.due("copy(0) on " + height, Stacks.ladder(height).copy(0), height + 1);
            }
        }
        Due.due("atLeast(1, 1) on 10", Stacks.ladder(ROOM).atLeast(1, 1), -1);
        Due.due("copy(0) on 10", Stacks.ladder(ROOM).copy(0), -1);
        needsNoRoom();
    }

    /** What takes off as many as it puts on, or more, is not refused on a full stack. */
    private static void needsNoRoom() {
        Due.due("dual() on 10", Stacks.ladder(ROOM).dual(), 10);
        Due.due("given(1) on 10", Stacks.ladder(ROOM).given(1), 10);
        Due.due("join(true) on 10", Stacks.ladder(ROOM).join(true), 9);
        Due.due("join(false) on 10", Stacks.ladder(ROOM).join(false), 9);
        Due.due("drop() on 10", Stacks.ladder(ROOM).drop(), 9);
    }

    // "the top one being number 0, the one below it number 1, and so on"

    private static void numberedFromTheTop() {
        for (int height = 1; height <= ROOM; height++) {
            for (int k = 0; k < height; k++) {
                numberIs("ladder of " + height + ": ", height, k);
            }
        }
    }

    private static void numberIs(String where, int height, int k) {
        int i = height - 1 - k;
        QuorumDesk x = Stacks.ladder(height);
        for (int set = 0; set < 256; set++) {
            Due.due(where + "enough(" + k + ", " + set + ")", x.enough(k, set), Stacks.inLadder(i, set) ? 1 : 0);
        }
        Due.due(where + "leastSets(" + k + ")", x.leastSets(k), i == 9 ? 1 : i);
        Due.due(where + "leastSet(" + k + ", 0)", x.leastSet(k, 0), i == 0 ? -1 : i == 9 ? 0 : 1);
        Due.due(where + "withstand(" + k + ")", x.withstand(k), i);
        for (int l = 0; l < height; l++) {
            Due.due(where + "meet(" + k + ", " + l + ")", x.meet(k, l), ladderMeets(i, height - 1 - l));
        }
        if (height < ROOM) {
            x.copy(k);
            Due.due(where + "withstand(0) after copy(" + k + ")", x.withstand(0), i);
            Due.due(where + "withstand(" + (k + 1) + ") after copy(" + k + ")", x.withstand(k + 1), i);
        }
    }

    /** A family with no set meets every one; 1 and 1 share machine 0; other pairs have sets apart. */
    private static int ladderMeets(int i, int j) {
        return i == 0 || j == 0 || i == 1 && j == 1 ? 1 : 0;
    }

    // "At the start it is empty."

    private static void emptyAtTheStart() {
        refused("join(true)", 0, x -> x.join(true));
        refused("join(false)", 0, x -> x.join(false));
        refused("dual()", 0, QuorumDesk::dual);
        refused("given(255)", 0, x -> x.given(255));
        refused("copy(0)", 0, x -> x.copy(0));
        refused("drop()", 0, QuorumDesk::drop);
        refused("enough(0, 255)", 0, x -> x.enough(0, 255));
        refused("leastSets(0)", 0, x -> x.leastSets(0));
        refused("leastSet(0, 0)", 0, x -> x.leastSet(0, 0));
        refused("meet(0, 0)", 0, x -> x.meet(0, 0));
        refused("withstand(0)", 0, x -> x.withstand(0));
        Due.due("first atLeast(0, 0)", new QuorumDesk().atLeast(0, 0), 1);
    }

    // "A call that needs more families than there are, or more room than there is, or an argument
    // out of its range, answers -1 and changes nothing."

    // More families than there are.

    private static void tooFewFamilies(int height) {
        if (height < 2) {
            refused("join(true)", height, x -> x.join(true));
            refused("join(false)", height, x -> x.join(false));
        }
        if (height < 1) {
            refused("dual()", height, QuorumDesk::dual);
            refused("given(0)", height, x -> x.given(0));
            refused("drop()", height, QuorumDesk::drop);
        }
    }

    private static void noSuchFamily(int height) {
        for (int k : Stacks.FAR) {
            noSuchNumber(height, k);
        }
        for (int k = height; k <= ROOM + 1; k++) {
            noSuchNumber(height, k);
        }
    }

    private static void noSuchNumber(int height, int k) {
        refused("copy(" + k + ")", height, x -> x.copy(k));
        refused("enough(" + k + ", 255)", height, x -> x.enough(k, 255));
        refused("leastSets(" + k + ")", height, x -> x.leastSets(k));
        refused("leastSet(" + k + ", 0)", height, x -> x.leastSet(k, 0));
        refused("meet(" + k + ", 0)", height, x -> x.meet(k, 0));
        refused("meet(0, " + k + ")", height, x -> x.meet(0, k));
        refused("meet(" + k + ", " + k + ")", height, x -> x.meet(k, k));
        refused("withstand(" + k + ")", height, x -> x.withstand(k));
    }

    // More room than there is.

    private static void noRoom() {
        for (int n = 0; n <= 8; n++) {
            int count = n;
            refused("atLeast(" + count + ", 255)", ROOM, x -> x.atLeast(count, 255));
            refused("atLeast(" + count + ", 0)", ROOM, x -> x.atLeast(count, 0));
        }
        for (int n = 0; n < ROOM; n++) {
            int k = n;
            refused("copy(" + k + ")", ROOM, x -> x.copy(k));
        }
    }

    // An argument out of its range.

    private static void countOutOfRange(int height) {
        for (int count : Stacks.FAR) {
            refused("atLeast(" + count + ", 255)", height, x -> x.atLeast(count, 255));
        }
        refused("atLeast(9, 255)", height, x -> x.atLeast(9, 255));
        refused("atLeast(10, 255)", height, x -> x.atLeast(10, 255));
        refused("atLeast(-1, 0)", height, x -> x.atLeast(-1, 0));
    }

    private static void indexOutOfRange(int height) {
        for (int n = 0; n < height; n++) {
            int k = n;
            int past = Stacks.ladder(height).leastSets(k);
            refused("leastSet(" + k + ", " + past + ")", height, x -> x.leastSet(k, past));
            for (int index : Stacks.FAR) {
                refused("leastSet(" + k + ", " + index + ")", height, x -> x.leastSet(k, index));
            }
        }
    }

    // More than one of these, and many refused calls together.

    private static void refusedForTwoReasons() {
        refused("leastSet(-1, -1)", 2, x -> x.leastSet(-1, -1));
        refused("leastSet(2, 256)", 2, x -> x.leastSet(2, 256));
        refused("meet(-1, 2)", 2, x -> x.meet(-1, 2));
        refused("meet(2, -1)", 2, x -> x.meet(2, -1));
        refused("atLeast(9, 255)", ROOM, x -> x.atLeast(9, 255));
        refused("copy(10)", ROOM, x -> x.copy(10));
        refused("copy(-1)", ROOM, x -> x.copy(-1));
    }

    /** What one refused call leaves unseen, many of them might show. */
    private static void refusedOneAfterAnother() {
        for (int height = 0; height <= ROOM; height++) {
            int families = height;
            Due.unchanged("twenty times what is refused on " + height, () -> Stacks.ladder(families), x -> {
                for (int n = 0; n < 20; n++) {
                    callRefused(x, families);
                }
            });
        }
    }

    private static void callRefused(QuorumDesk x, int height) {
        x.atLeast(-1, 255);
        x.atLeast(9, 255);
        x.copy(height);
        x.enough(height, 255);
        x.leastSet(0, -1);
        x.meet(0, height);
        x.withstand(-1);
        if (height < 2) {
            x.join(true);
        }
        if (height < 1) {
            x.dual();
            x.given(255);
            x.drop();
        }
        if (height == ROOM) {
            x.atLeast(1, 1);
            x.copy(0);
        }
    }

    // "An object is used for at most 512 calls after it has been made"

    private static void usedFor512Calls() {
        last("asked", (x, n) -> x.enough(0, n));
        last("refused", (x, n) -> x.copy(n % 2 == 0 ? 3 : -1));
        last("given nothing", (x, n) -> x.given(0));
        last("turned twice", (x, n) -> x.dual());
        last("copied and dropped", (x, n) -> turns(n, x, y -> y.copy(2), QuorumDesk::drop));
        last("put and dropped", (x, n) -> turns(n, x, y -> y.atLeast(8, 255), QuorumDesk::drop));
        last("copied and joined", (x, n) -> turns(n, x, y -> y.copy(0), y -> y.join(n % 4 == 1)));
        filledAndEmptied();
    }

    private interface Filler {
        void call(QuorumDesk x, int n);
    }

    private static void turns(int n, QuorumDesk x, Consumer<QuorumDesk> even, Consumer<QuorumDesk> odd) {
        (n % 2 == 0 ? even : odd).accept(x);
    }

    /** Every kind of call as the 512th one, after calls that leave the stack as it was. */
    private static void last(String filled, Filler filler) {
        lastCall(filled, filler, "atLeast(1, 1)", x -> x.atLeast(1, 1), 4);
        lastCall(filled, filler, "join(true)", x -> x.join(true), 2);
        lastCall(filled, filler, "dual()", QuorumDesk::dual, 3);
        lastCall(filled, filler, "given(3)", x -> x.given(3), 3);
        lastCall(filled, filler, "copy(2)", x -> x.copy(2), 4);
        lastCall(filled, filler, "copy(3)", x -> x.copy(3), -1);
        lastCall(filled, filler, "drop()", QuorumDesk::drop, 2);
        lastCall(filled, filler, "enough(2, 3)", x -> x.enough(2, 3), 1);
        lastCall(filled, filler, "enough(2, 249)", x -> x.enough(2, 249), 0);
        lastCall(filled, filler, "leastSets(2)", x -> x.leastSets(2), 3);
        lastCall(filled, filler, "leastSet(0, 55)", x -> x.leastSet(0, 55), 248);
        lastCall(filled, filler, "meet(1, 2)", x -> x.meet(1, 2), 0);
        lastCall(filled, filler, "meet(0, 0)", x -> x.meet(0, 0), 1);
        lastCall(filled, filler, "withstand(0)", x -> x.withstand(0), 4);
    }

    private static void lastCall(String filled, Filler filler, String call, ToIntFunction<QuorumDesk> doCall, int due) {
        QuorumDesk x = new QuorumDesk();
        x.atLeast(2, 7);
        x.atLeast(1, 8);
        x.atLeast(5, 255);
        for (int n = 0; n < CALLS - 4; n++) {
            filler.call(x, n);
        }
        Due.due("call 512, " + filled + " before: " + call, doCall.applyAsInt(x), due);
    }

    /** Filled to ten and emptied to none, over and over. */
    private static void filledAndEmptied() {
        QuorumDesk x = new QuorumDesk();
        int height = 0;
        boolean filling = true;
        for (int call = 1; call <= CALLS; call++) {
            height += filling ? 1 : -1;
            int got = filling ? x.atLeast(1, 255) : x.drop();
            Due.due("filled and emptied, call " + call, got, height);
            if (height == 0 || height == ROOM) {
                filling = !filling;
            }
        }
    }
}
