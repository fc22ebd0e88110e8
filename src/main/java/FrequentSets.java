/** What is bought together: counts, frequent sets and rules over a short list of baskets. */
public final class FrequentSets {
    public static final int BAD = -1;
    public static final int FULL = -2;
    public static final int NONE = -3;

    private static final int THINGS = 8;
    private static final int LAST_SET = 255;
    private static final int MOST_BASKETS = 20;

    /** The oldest basket stands at 0. */
    private final int[] baskets = new int[MOST_BASKETS];
    private int size;

    public FrequentSets() {
        size = 0;
    }

    public int add(int set) {
        if (size >= MOST_BASKETS) {
            return FULL;
        }
        if (!isSet(set)) {
            return BAD;
        }
        baskets[size] = set;
        size++;
        return size;
    }

    public int drop() {
        if (size == 0) {
            return NONE;
        }
        size--;
        for (int i = 0; i < size; i++) {
            baskets[i] = baskets[i + 1];
        }
        return size;
    }

    public int count(int set) {
        return isSet(set) ? countOf(set) : BAD;
    }

    public int frequent(int m) {
        if (!isLimit(m)) {
            return BAD;
        }
        int found = 0;
        for (int set = 1; set <= LAST_SET; set++) {
            if (countOf(set) >= m) {
                found++;
            }
        }
        return found;
    }

    public int closed(int m) {
        if (!isLimit(m)) {
            return BAD;
        }
        int found = 0;
        for (int set = 1; set <= LAST_SET; set++) {
            if (isClosed(set, m)) {
                found++;
            }
        }
        return found;
    }

    public int largest(int m) {
        if (!isLimit(m)) {
            return BAD;
        }
        int found = 0;
        for (int set = 1; set <= LAST_SET; set++) {
            if (isLargest(set, m)) {
                found++;
            }
        }
        return found;
    }

    public int closedSet(int m, int k) {
        if (!isLimit(m)) {
            return BAD;
        }
        int number = 0;
        for (int set = 1; set <= LAST_SET; set++) {
            if (isClosed(set, m)) {
                if (number == k) {
                    return set;
                }
                number++;
            }
        }
        return NONE;
    }

    public int closure(int set) {
        if (!isSet(set)) {
            return BAD;
        }
        if (countOf(set) == 0) {
            return NONE;
        }
        int common = LAST_SET;
        for (int i = 0; i < size; i++) {
            if (hasAll(baskets[i], set)) {
                common &= baskets[i];
            }
        }
        return common;
    }

    public int widest(int m) {
        if (!isLimit(m)) {
            return BAD;
        }
        int greatest = 0;
        for (int set = 1; set <= LAST_SET; set++) {
            int width = thingsIn(set);
            if (width > greatest && countOf(set) >= m) {
                greatest = width;
            }
        }
        return greatest;
    }

    public int rules(int m, int percent) {
        if (!isLimit(m) || percent < 0 || percent > 100) {
            return BAD;
        }
        int found = 0;
        for (int both = 1; both <= LAST_SET; both++) {
            int bothCount = countOf(both);
            if (bothCount >= m) {
                found += rulesWithin(both, bothCount, percent);
            }
        }
        return found;
    }

    public int companion(int set) {
        if (!isSet(set) || set == 0) {
            return BAD;
        }
        if (countOf(set) == 0) {
            return NONE;
        }
        // All these rules start from the same set, so the strongest is the one with the greatest count.
        int best = NONE;
        int bestCount = -1;
        for (int t = 0; t < THINGS; t++) {
            int together = set | (1 << t);
            int togetherCount = countOf(together);
            if (together != set && togetherCount > bestCount) {
                best = t;
                bestCount = togetherCount;
            }
        }
        return best;
    }

    private static boolean isSet(int set) {
        return set >= 0 && set <= LAST_SET;
    }

    private static boolean isLimit(int m) {
        return m >= 1 && m <= MOST_BASKETS;
    }

    private static boolean hasAll(int basket, int set) {
        return (basket & set) == set;
    }

    private static int thingsIn(int set) {
        int things = 0;
        for (int t = 0; t < THINGS; t++) {
            things += (set >> t) & 1;
        }
        return things;
    }

    private int countOf(int set) {
        int found = 0;
        for (int i = 0; i < size; i++) {
            if (hasAll(baskets[i], set)) {
                found++;
            }
        }
        return found;
    }

    private boolean isClosed(int set, int m) {
        int own = countOf(set);
        return own >= m && greatestCountAbove(set) < own;
    }

    private boolean isLargest(int set, int m) {
        return countOf(set) >= m && greatestCountAbove(set) < m;
    }

    /** One thing more is enough to look at: a set with still more things never has a greater count. */
    private int greatestCountAbove(int set) {
        int greatest = 0;
        for (int t = 0; t < THINGS; t++) {
            int wider = set | (1 << t);
            int widerCount = countOf(wider);
            if (wider != set && widerCount > greatest) {
                greatest = widerCount;
            }
        }
        return greatest;
    }

    /** A rule is told by its first set and both together, so the first set runs over the true parts of both. */
    private int rulesWithin(int both, int bothCount, int percent) {
        int found = 0;
        for (int first = 1; first < both; first++) {
            // Multiplied out, so that nothing is rounded and there is no divisor to look at.
            if (hasAll(both, first) && bothCount * 100 >= percent * countOf(first)) {
                found++;
            }
        }
        return found;
    }
}
