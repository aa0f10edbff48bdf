import java.util.ArrayList;
import java.util.List;

/**
 * The document's words, put down as they stand and without regard to speed: wherever the document
 * says "every set" or "no smaller set", every set is looked at. It leans on none of the shortcuts
 * of the class that it is compared with.
 */
final class Model {
    /** The last one is the top of the stack. */
    private final List<boolean[]> stack = new ArrayList<>();

    private boolean[] number(int k) {
        return stack.get(stack.size() - 1 - k);
    }

    private boolean none(int k) {
        return k < 0 || k >= stack.size();
    }

    private boolean[] takeOff() {
        return stack.remove(stack.size() - 1);
    }

    private int putOn(boolean[] family) {
        stack.add(family);
        return stack.size();
    }

    int families() {
        return stack.size();
    }

    int atLeast(int count, int set) {
        if (count < 0 || count > 8 || stack.size() == 10) {
            return -1;
        }
        boolean[] family = new boolean[256];
        for (int s = 0; s < 256; s++) {
            family[s] = Integer.bitCount(s & set & 255) >= count;
        }
        return putOn(family);
    }

    int join(boolean all) {
        if (stack.size() < 2) {
            return -1;
        }
        boolean[] a = takeOff();
        boolean[] b = takeOff();
        boolean[] family = new boolean[256];
        for (int s = 0; s < 256; s++) {
            int in = (a[s] ? 1 : 0) + (b[s] ? 1 : 0);
            family[s] = in >= (all ? 2 : 1);
        }
        return putOn(family);
    }

    int dual() {
        if (stack.isEmpty()) {
            return -1;
        }
        boolean[] old = takeOff();
        boolean[] family = new boolean[256];
        for (int s = 0; s < 256; s++) {
            family[s] = true;
            for (int t = 0; t < 256; t++) {
                if (old[t] && (s & t) == 0) {
                    family[s] = false;
                }
            }
        }
        return putOn(family);
    }

    int given(int set) {
        if (stack.isEmpty()) {
            return -1;
        }
        boolean[] old = takeOff();
        boolean[] family = new boolean[256];
        for (int s = 0; s < 256; s++) {
            family[s] = old[(s | set) & 255];
        }
        return putOn(family);
    }

    int copy(int k) {
        return none(k) || stack.size() == 10 ? -1 : putOn(number(k).clone());
    }

    int drop() {
        if (stack.isEmpty()) {
            return -1;
        }
        takeOff();
        return stack.size();
    }

    int enough(int k, int set) {
        return none(k) ? -1 : number(k)[set & 255] ? 1 : 0;
    }

    private static List<Integer> leastOf(boolean[] family) {
        List<Integer> least = new ArrayList<>();
        for (int s = 0; s < 256; s++) {
            boolean smallerBelongs = false;
            for (int t = 0; t < 256; t++) {
                boolean smaller = t != s && (t | s) == s;
                smallerBelongs |= smaller && family[t];
            }
            if (family[s] && !smallerBelongs) {
                least.add(s);
            }
        }
        return least;
    }

    int leastSets(int k) {
        return none(k) ? -1 : leastOf(number(k)).size();
    }

    int leastSet(int k, int index) {
        if (none(k)) {
            return -1;
        }
        List<Integer> least = leastOf(number(k));
        return index < 0 || index >= least.size() ? -1 : least.get(index);
    }

    int meet(int k, int l) {
        if (none(k) || none(l)) {
            return -1;
        }
        for (int s = 0; s < 256; s++) {
            for (int t = 0; t < 256; t++) {
                if (number(k)[s] && number(l)[t] && (s & t) == 0) {
                    return 0;
                }
            }
        }
        return 1;
    }

    int withstand(int k) {
        if (none(k)) {
            return -1;
        }
        for (int size = 0; size <= 8; size++) {
            for (int taken = 0; taken < 256; taken++) {
                if (Integer.bitCount(taken) == size && !number(k)[255 & ~taken]) {
                    return size;
                }
            }
        }
        return 9;
    }
}
