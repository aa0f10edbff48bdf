import java.util.function.Consumer;
import java.util.function.Supplier;
import java.util.function.ToIntFunction;

/** What the tests share: comparing answers and whole states with what is due. */
final class Due {
    private static int wrong = 0;

    private Due() {
    }

    static void due(String call, long got, long want) {
        if (got != want) {
            wrong++;
            System.out.println(call + " answered " + got + ", due is " + want);
        }
    }

    static void fault(String text) {
        wrong++;
        System.out.println(text);
    }

    static void end() {
        System.out.println(wrong == 0 ? "all answers are as due" : wrong + " answers are not as due");
        if (wrong != 0) {
            System.exit(1);
        }
    }

    /** The call must answer -1 and change nothing. */
    static void refused(String call, Supplier<QuorumDesk> made, ToIntFunction<QuorumDesk> doCall) {
        due(call, doCall.applyAsInt(made.get()), -1);
        unchanged(call, made, doCall::applyAsInt);
    }

    static void unchanged(String call, Supplier<QuorumDesk> made, Consumer<QuorumDesk> doCall) {
        Supplier<QuorumDesk> after = () -> {
            QuorumDesk x = made.get();
            doCall.accept(x);
            return x;
        };
        if (!stateOf(made).equals(stateOf(after))) {
            fault(call + " changed the stack");
        }
    }

    /**
     * What drop and atLeast would answer, then the families from the top down, each as 256 digits.
     * The answer of atLeast is there because drop alone does not show a count that sank below 0.
     */
    static String stateOf(Supplier<QuorumDesk> made) {
        StringBuilder state = new StringBuilder();
        int below = made.get().drop();
        state.append(below).append(' ').append(made.get().atLeast(1, 255)).append('\n');
        for (int k = 0; k <= below; k++) {
            state.append(familyOf(made, k)).append('\n');
        }
        return state.toString();
    }

    /** A new object for each family, because one object is good for 512 calls only. */
    static String familyOf(Supplier<QuorumDesk> made, int k) {
        QuorumDesk x = made.get();
        StringBuilder family = new StringBuilder();
        for (int set = 0; set < 256; set++) {
            family.append(x.enough(k, set));
        }
        return family.toString();
    }
}
