import java.util.ArrayDeque;
import java.util.ArrayList;
import java.util.List;

/** Long mixed runs against a slow model that is written word for word after the document's terms. */
public final class ModelTest {
    private static final int RUNS = 60;
    private static final int CALLS = 512;

    private final Due due;
    private final ArrayDeque<Integer> baskets = new ArrayDeque<>();
    private final FrequentSets x = new FrequentSets();
    private long state;

    private ModelTest(Due due, long seed) {
        this.due = due;
        this.state = seed;
    }

    public static void main(String[] args) {
        Due due = new Due();
        for (int run = 0; run < RUNS; run++) {
            new ModelTest(due, run).run();
        }
        due.end();
    }

    private void run() {
        // Some runs have few things, so that sets meet; some drop often, so that the list stays short.
        int mask = new int[] {255, 15, 231, 7}[next(4)];
        int dropShare = 1 + next(3);
        for (int call = 0; call < CALLS; call++) {
            int kind = next(18);
            if (kind < 4) {
                int set = next(20) == 0 ? oddSet() : (next(256) | next(256)) & mask;
                due.is("add(" + set + ")" + baskets, x.add(set), add(set));
            } else if (kind < 4 + dropShare) {
                due.is("drop()" + baskets, x.drop(), drop());
            } else {
                ask(kind % 9);
            }
        }
    }

    private void ask(int question) {
        int set = next(12) == 0 ? oddSet() : next(256) & next(256) & next(256);
        int m = next(12) == 0 ? next(30) - 5 : 1 + next(1 + next(20));
        int k = next(30) - 2;
        int percent = next(12) == 0 ? next(140) - 20 : next(101);
        switch (question) {
            case 0 -> due.is("count(" + set + ")" + baskets, x.count(set), isSet(set) ? countOf(set) : -1);
            case 1 -> due.is("frequent(" + m + ")" + baskets, x.frequent(m), isLimit(m) ? frequentSets(m).size() : -1);
            case 2 -> due.is("closed(" + m + ")" + baskets, x.closed(m), isLimit(m) ? closedSets(m).size() : -1);
            case 3 -> due.is("largest(" + m + ")" + baskets, x.largest(m), largest(m));
            case 4 -> due.is("closedSet(" + m + ", " + k + ")" + baskets, x.closedSet(m, k), closedSet(m, k));
            case 5 -> due.is("closure(" + set + ")" + baskets, x.closure(set), closure(set));
            case 6 -> due.is("widest(" + m + ")" + baskets, x.widest(m), widest(m));
            case 7 -> due.is("rules(" + m + ", " + percent + ")" + baskets, x.rules(m, percent), rules(m, percent));
            default -> due.is("companion(" + set + ")" + baskets, x.companion(set), companion(set));
        }
    }

    /** A fixed series: the same run every time. */
    private int next(int bound) {
        state = state * 6364136223846793005L + 1442695040888963407L;
        return (int) ((state >>> 33) % bound);
    }

    private int oddSet() {
        return new int[] {-1, 256, 0, 255, Integer.MIN_VALUE, Integer.MAX_VALUE}[next(6)];
    }

    private static boolean isSet(int set) {
        return 0 <= set && set <= 255;
    }

    private static boolean isLimit(int m) {
        return 1 <= m && m <= 20;
    }

    private static boolean hasAllAndMore(int wide, int set) {
        return wide != set && (set & ~wide) == 0;
    }

    private int add(int set) {
        if (baskets.size() == 20) {
            return -2;
        }
        if (!isSet(set)) {
            return -1;
        }
        baskets.addLast(set);
        return baskets.size();
    }

    private int drop() {
        return baskets.pollFirst() == null ? -3 : baskets.size();
    }

    private int countOf(int set) {
        return (int) baskets.stream().filter(b -> (set & ~b) == 0).count();
    }

    private List<Integer> frequentSets(int m) {
        List<Integer> all = new ArrayList<>();
        for (int set = 1; set < 256; set++) {
            if (countOf(set) >= m) {
                all.add(set);
            }
        }
        return all;
    }

    private List<Integer> closedSets(int m) {
        List<Integer> all = new ArrayList<>();
        for (int set : frequentSets(m)) {
            boolean closed = true;
            for (int wide = 0; wide < 256; wide++) {
                if (hasAllAndMore(wide, set) && countOf(wide) >= countOf(set)) {
                    closed = false;
                }
            }
            if (closed) {
                all.add(set);
            }
        }
        return all;
    }

    private int largest(int m) {
        if (!isLimit(m)) {
            return -1;
        }
        List<Integer> frequent = frequentSets(m);
        return (int) frequent.stream().filter(s -> frequent.stream().noneMatch(w -> hasAllAndMore(w, s))).count();
    }

    private int closedSet(int m, int k) {
        if (!isLimit(m)) {
            return -1;
        }
        List<Integer> closed = closedSets(m);
        return 0 <= k && k < closed.size() ? closed.get(k) : -3;
    }

    private int closure(int set) {
        if (!isSet(set)) {
            return -1;
        }
        if (countOf(set) == 0) {
            return -3;
        }
        int things = 0;
        for (int t = 0; t < 8; t++) {
            int thing = 1 << t;
            if (baskets.stream().filter(b -> (set & ~b) == 0).allMatch(b -> (b & thing) != 0)) {
                things += thing;
            }
        }
        return things;
    }

    private int widest(int m) {
        if (!isLimit(m)) {
            return -1;
        }
        return frequentSets(m).stream().mapToInt(Integer::bitCount).max().orElse(0);
    }

    private int rules(int m, int percent) {
        if (!isLimit(m) || percent < 0 || percent > 100) {
            return -1;
        }
        int found = 0;
        for (int first = 1; first < 256; first++) {
            int firstCount = countOf(first);
            for (int second = 1; firstCount > 0 && second < 256; second++) {
                if ((first & second) == 0) {
                    int both = countOf(first | second);
                    found += both >= m && both * 100 >= percent * firstCount ? 1 : 0;
                }
            }
        }
        return found;
    }

    private int companion(int set) {
        if (!isSet(set) || set == 0) {
            return -1;
        }
        if (countOf(set) == 0 || set == 255) {
            return -3;
        }
        int best = -1;
        for (int t = 7; t >= 0; t--) {
            boolean outside = (set & 1 << t) == 0;
            if (outside && (best < 0 || countOf(set | 1 << t) >= countOf(set | 1 << best))) {
                best = t;
            }
        }
        return best;
    }
}
