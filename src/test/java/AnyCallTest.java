import java.util.Set;
import java.util.TreeSet;
import java.util.function.IntSupplier;

/**
 * Rule 7 of LANGUAGE.md: no call throws, for any arguments in any state. Every call is asked with what lies around
 * its limits and around every power of two, with 0 to 20 baskets; what it answers must be a number that the document
 * has for this call. That every call ends is seen by LanguageTest from the loops.
 */
public final class AnyCallTest {
    private static final int MOST_BASKETS = 20;
    private static final int PROMISED_CALLS = 512;
    private static final int LONG_RUN = 20000;
    private static final int[] NEAR_LIMITS = {-101, -100, -21, -20, -3, -2, -1, 0, 1, 2, 7, 8, 9, 19, 20, 21, 22,
        50, 99, 100, 101, 102, 254, 255, 256, 257};

    private static final Due due = new Due();
    private static long series = 1;

    public static void main(String[] args) {
        int[] wide = aroundPowersAnd(300);
        int[] narrow = aroundPowersAnd(0);
        for (int size = 0; size <= MOST_BASKETS; size++) {
            for (int fill : new int[] {0, 255, 85}) {
                oneArgument(size, fill, wide);
                twoArguments(size, fill, narrow);
            }
        }
        longRun(wide);
        due.end();
    }

    /** Every number from -reach to reach, and what stands near a limit or a power of two. */
    private static int[] aroundPowersAnd(int reach) {
        Set<Integer> numbers = new TreeSet<>();
        for (int n = -reach; n <= reach; n++) {
            numbers.add(n);
        }
        for (int near : NEAR_LIMITS) {
            numbers.add(near);
        }
        for (int bit = 0; bit < 32; bit++) {
            for (int off = -1; off <= 1; off++) {
                numbers.add((1 << bit) + off);
                numbers.add(-(1 << bit) + off);
            }
        }
        return numbers.stream().mapToInt(n -> n).toArray();
    }

    /** Baskets that are all the same, or, with a fill that is neither empty nor whole, all different. */
    private static FrequentSets state(int size, int fill) {
        int[] baskets = new int[size];
        for (int i = 0; i < size; i++) {
            baskets[i] = fill == 0 || fill == 255 ? fill : (fill * (i + 1)) & 255;
        }
        return Inputs.with(baskets);
    }

    private static void answers(String call, IntSupplier asked, int least, int most) {
        boolean fits;
        try {
            int answer = asked.getAsInt();
            fits = answer >= least && answer <= most;
        } catch (Throwable thrown) {
            call += " threw " + thrown;
            fits = false;
        }
        due.is(call + ": an answer from " + least + " to " + most, fits ? 1 : 0, 1);
    }

    private static void oneArgument(int size, int fill, int[] arguments) {
        String there = " with " + size + " baskets from " + fill;
        answers("drop()" + there, () -> state(size, fill).drop(), -3, 19);
        for (int n : arguments) {
            // One object for each argument, so that none is asked more often than is promised.
            FrequentSets x = state(size, fill);
            answers("count(" + n + ")" + there, () -> x.count(n), -1, 20);
            answers("frequent(" + n + ")" + there, () -> x.frequent(n), -1, 255);
            answers("closed(" + n + ")" + there, () -> x.closed(n), -1, 255);
            answers("largest(" + n + ")" + there, () -> x.largest(n), -1, 70);
            answers("closure(" + n + ")" + there, () -> x.closure(n), -3, 255);
            answers("widest(" + n + ")" + there, () -> x.widest(n), -1, 8);
            answers("companion(" + n + ")" + there, () -> x.companion(n), -3, 7);
            answers("add(" + n + ")" + there, () -> x.add(n), -2, 20);
            answers("drop() after add(" + n + ")" + there, () -> x.drop(), -3, 19);
        }
    }

    private static void twoArguments(int size, int fill, int[] arguments) {
        String there = " with " + size + " baskets from " + fill;
        for (int m : arguments) {
            FrequentSets x = state(size, fill);
            for (int n : arguments) {
                answers("closedSet(" + m + ", " + n + ")" + there, () -> x.closedSet(m, n), -3, 255);
                answers("rules(" + m + ", " + n + ")" + there, () -> x.rules(m, n), -1, 6050);
            }
        }
    }

    /** Far past the calls that are promised an answer: there any answer will do, but still none may throw. */
    private static void longRun(int[] arguments) {
        FrequentSets x = new FrequentSets();
        for (int call = 1; call <= LONG_RUN; call++) {
            int kind = next(13);
            int n = arguments[next(arguments.length)];
            int m = next(3) == 0 ? arguments[next(arguments.length)] : next(23);
            boolean promised = call <= PROMISED_CALLS;
            answers("call " + call + " of a long run", () -> ask(x, kind, m, n),
                    promised ? -3 : Inputs.LOW, promised ? 6050 : Inputs.HIGH);
        }
    }

    /** A fixed series: the same run every time. */
    private static int next(int bound) {
        series = series * 6364136223846793005L + 1442695040888963407L;
        return (int) ((series >>> 33) % bound);
    }

    private static int ask(FrequentSets x, int kind, int m, int n) {
        return switch (kind) {
            case 0 -> x.drop();
            case 1 -> x.count(n);
            case 2 -> x.frequent(m);
            case 3 -> x.closed(m);
            case 4 -> x.largest(m);
            case 5 -> x.closedSet(m, n);
            case 6 -> x.closure(n);
            case 7 -> x.widest(m);
            case 8 -> x.rules(m, n);
            case 9 -> x.companion(n);
            default -> x.add(n);
        };
    }
}
