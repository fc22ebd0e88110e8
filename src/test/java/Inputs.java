/** Objects to ask, and the arguments that no call takes. */
final class Inputs {
    static final int LOW = Integer.MIN_VALUE;
    static final int HIGH = Integer.MAX_VALUE;
    static final int[] NO_SETS = {LOW, -256, -255, -1, 256, 257, 511, 65536, HIGH};
    static final int[] NO_LIMITS = {LOW, -20, -1, 0, 21, 22, 257, HIGH};
    static final int[] NO_PERCENTS = {LOW, -100, -1, 101, 102, HIGH};

    private Inputs() {
    }

    static FrequentSets with(int... sets) {
        FrequentSets x = new FrequentSets();
        for (int set : sets) {
            x.add(set);
        }
        return x;
    }

    static FrequentSets times(int n, int set) {
        FrequentSets x = new FrequentSets();
        for (int i = 0; i < n; i++) {
            x.add(set);
        }
        return x;
    }
}
