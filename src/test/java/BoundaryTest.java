/**
 * One test for each sentence of the document that names a boundary case; what fails is told with the sentence.
 * Promise 13 has a test file of its own, RefusedTest.
 */
public final class BoundaryTest {
    private static final int BAD = -1;
    private static final int FULL = -2;
    private static final int NONE = -3;

    private static final Due due = new Due();
    private static String sentence;

    public static void main(String[] args) {
        lastCalls();
        lastCallsThatMoveBaskets();
        things();
        sets();
        upToTwentyBaskets();
        sameBaskets();
        emptySetsCount();
        frequentIsNotEmpty();
        frequentFromM();
        limitsTaken();
        closedAgainstEqualCounts();
        closedWithNothingAbove();
        largestAgainstFrequentAbove();
        ruleSetsNotEmptyAndApart();
        ruleOverTheFirst();
        newObject();
        addFull();
        addBad();
        addFullBeforeBad();
        addAnswers();
        dropOldest();
        dropAnswers();
        dropNone();
        countBad();
        frequentBad();
        closedBad();
        largestBad();
        closedSetFromZero();
        closedSetAscending();
        closedSetBad();
        closedSetNone();
        closedSetBadBeforeNone();
        closureEdges();
        closureBad();
        closureNone();
        closureBadBeforeNone();
        widestZero();
        widestBad();
        rulesAtLeastPercent();
        rulesTogetherFrequent();
        rulesBadLimit();
        rulesBadPercent();
        companionSmallest();
        companionOutside();
        companionBad();
        companionNoBasket();
        companionNothingOutside();
        companionBadBeforeNone();
        due.end();
    }

    private static void says(String words) {
        sentence = words;
    }

    private static void is(String call, int got, int want) {
        due.is("\"" + sentence + "\": " + call, got, want);
    }

    private static void lastCalls() {
        says("What it is: at most 512 calls");
        FrequentSets x = Inputs.with(3, 5);
        for (int call = 3; call <= 511; call++) {
            is("count(1) as call " + call, x.count(1), 2);
        }
        is("add(9) as call 512", x.add(9), 3);
        FrequentSets y = new FrequentSets();
        for (int call = 1; call <= 510; call++) {
            is("drop() as call " + call, y.drop(), NONE);
        }
        is("add(9) as call 511", y.add(9), 1);
        is("count(9) as call 512", y.count(9), 1);
    }

    /** As many baskets pass through as 512 calls let, so a place that wraps around wraps often. */
    private static void lastCallsThatMoveBaskets() {
        says("What it is: at most 512 calls");
        FrequentSets full = Inputs.times(20, 1);
        for (int n = 0; n < 244; n++) {
            is("drop() number " + n + " of 20", full.drop(), 19);
            is("add(" + (n & 255) + ") to 19", full.add(n & 255), 20);
        }
        // Now 224 to 243 are there: 16 of them below 240, and 240 to 243.
        is("count(224) as call 509", full.count(224), 20);
        is("count(240) as call 510", full.count(240), 4);
        is("closure(0) as call 511", full.closure(0), 224);
        is("add(1) as call 512", full.add(1), FULL);
        FrequentSets lone = new FrequentSets();
        for (int n = 0; n < 170; n++) {
            is("add(" + n + ") to 0", lone.add(n), 1);
            is("closure(0) of " + n, lone.closure(0), n);
            is("drop() of 1", lone.drop(), 0);
        }
    }

    private static void things() {
        says("Terms: 8 THINGS, 0 to 7; bit t speaks of thing t");
        for (int t = 0; t < 8; t++) {
            int thing = 1 << t;
            FrequentSets alone = Inputs.with(thing);
            is("count(" + thing + ") of it", alone.count(thing), 1);
            is("count(" + (255 - thing) + ") of " + thing, alone.count(255 - thing), 0);
            is("closedSet(1, 0) of " + thing, alone.closedSet(1, 0), thing);
            is("widest(1) of " + thing, alone.widest(1), 1);
            FrequentSets all = Inputs.with(255);
            is("companion of all but thing " + t, all.companion(255 - thing), t);
        }
    }

    private static void sets() {
        says("Terms: a SET is a number from 0 to 255");
        FrequentSets x = new FrequentSets();
        is("add(0)", x.add(0), 1);
        is("add(255)", x.add(255), 2);
        is("count(0)", x.count(0), 2);
        is("count(255)", x.count(255), 1);
        is("closure(0)", x.closure(0), 0);
        is("closure(255)", x.closure(255), 255);
        is("companion(1)", x.companion(1), 1);
        is("companion(254)", x.companion(254), 0);
        is("frequent(1)", x.frequent(1), 255);
    }

    private static void upToTwentyBaskets() {
        says("Terms: a list of up to 20 BASKETS");
        FrequentSets x = Inputs.times(19, 4);
        is("add(6) to 19", x.add(6), 20);
        is("add(6) to 20", x.add(6), FULL);
        is("count(4)", x.count(4), 20);
        is("count(6)", x.count(6), 1);
    }

    private static void sameBaskets() {
        says("Terms: some of which may be the same");
        for (int set : new int[] {0, 1, 6, 255}) {
            FrequentSets x = Inputs.times(3, set);
            is("count(" + set + ") of three", x.count(set), 3);
            is("drop()", x.drop(), 2);
            is("count(" + set + ") of two", x.count(set), 2);
        }
    }

    private static void emptySetsCount() {
        says("Terms: for the empty set that is all baskets");
        FrequentSets x = new FrequentSets();
        is("count(0) of none", x.count(0), 0);
        for (int n = 1; n <= 20; n++) {
            x.add(n % 3 == 0 ? 0 : n);
            is("count(0) of " + n, x.count(0), n);
        }
    }

    private static void frequentIsNotEmpty() {
        says("Terms: FREQUENT iff it is not empty");
        FrequentSets x = Inputs.times(20, 0);
        for (int m = 1; m <= 20; m += 19) {
            is("frequent(" + m + ")", x.frequent(m), 0);
            is("closed(" + m + ")", x.closed(m), 0);
            is("largest(" + m + ")", x.largest(m), 0);
            is("closedSet(" + m + ", 0)", x.closedSet(m, 0), NONE);
            is("widest(" + m + ")", x.widest(m), 0);
            is("rules(" + m + ", 0)", x.rules(m, 0), 0);
        }
        // Here the empty set has the greatest count, and yet it is not among the closed ones.
        FrequentSets apart = Inputs.with(1, 2);
        is("frequent(1)", apart.frequent(1), 2);
        is("closed(1)", apart.closed(1), 2);
        is("closedSet(1, 0)", apart.closedSet(1, 0), 1);
        is("largest(2)", apart.largest(2), 0);
    }

    private static void frequentFromM() {
        says("Terms: its count is at least m");
        for (int n = 1; n <= 20; n++) {
            FrequentSets x = Inputs.times(n, 192);
            for (int m = 1; m <= 20; m++) {
                boolean enough = n >= m;
                String of = "(" + m + ") of " + n;
                is("frequent" + of, x.frequent(m), enough ? 3 : 0);
                is("closed" + of, x.closed(m), enough ? 1 : 0);
                is("largest" + of, x.largest(m), enough ? 1 : 0);
                is("widest" + of, x.widest(m), enough ? 2 : 0);
                is("closedSet, 0, " + of, x.closedSet(m, 0), enough ? 192 : NONE);
                is("rules, 100, " + of, x.rules(m, 100), enough ? 2 : 0);
            }
        }
    }

    private static void limitsTaken() {
        says("Terms: a number m from 1 to 20");
        FrequentSets none = new FrequentSets();
        for (int m = 1; m <= 20; m++) {
            is("frequent(" + m + ")", none.frequent(m), 0);
            is("closed(" + m + ")", none.closed(m), 0);
            is("largest(" + m + ")", none.largest(m), 0);
            is("widest(" + m + ")", none.widest(m), 0);
            is("closedSet(" + m + ", 0)", none.closedSet(m, 0), NONE);
            is("rules(" + m + ", 0)", none.rules(m, 0), 0);
        }
    }

    private static void closedAgainstEqualCounts() {
        says("Terms: CLOSED iff every set that has all its things and more has a smaller count");
        is("closed(1), 3 has the count of 1", Inputs.with(3, 3).closed(1), 1);
        is("closed(1), 3 has one less than 1", Inputs.with(3, 1).closed(1), 2);
        is("closedSet(1, 0), 3 has one less than 1", Inputs.with(3, 1).closedSet(1, 0), 1);
        // 1 has the count 2 and so has 7, by two things more at once.
        is("closed(1), only two things more", Inputs.with(7, 7).closed(1), 1);
        // 128 has the count of 129, whose thing more is thing 0.
        is("closed(1), the thing more is a smaller one", Inputs.with(129, 129, 1).closed(1), 2);
        // Above 1 there are 3 and 5, not frequent for 2 and with smaller counts.
        is("closed(2), sets above are not frequent", Inputs.with(3, 5).closed(2), 1);
        is("closedSet(2, 0), sets above are not frequent", Inputs.with(3, 5).closedSet(2, 0), 1);
    }

    private static void closedWithNothingAbove() {
        says("Terms: CLOSED, and no set has more things than 255");
        is("closed(1) of 255", Inputs.with(255).closed(1), 1);
        is("closedSet(1, 0) of 255", Inputs.with(255).closedSet(1, 0), 255);
        is("largest(1) of 255", Inputs.with(255).largest(1), 1);
    }

    private static void largestAgainstFrequentAbove() {
        says("Terms: LARGEST iff no such set is frequent");
        FrequentSets x = Inputs.with(1, 1, 3, 3, 7);
        // Counts: 1 has 5, 3 has 3, 7 has 1.
        int[] want = {1, 1, 1, 1, 1, 0};
        for (int m = 1; m <= want.length; m++) {
            is("largest(" + m + ") of a chain", x.largest(m), want[m - 1]);
        }
        FrequentSets fork = Inputs.with(3, 3, 5, 5, 7);
        // 7 is frequent for 1; for 2 and 3 it is not, so 3 and 5 are largest; for 4 only 1 is left.
        int[] forks = {1, 2, 2, 1, 1, 0};
        for (int m = 1; m <= forks.length; m++) {
            is("largest(" + m + ") of a fork", fork.largest(m), forks[m - 1]);
        }
        // 1 and 2 have a smaller count above them, and yet that set is frequent.
        is("largest(1), closed but not largest", Inputs.with(1, 2, 3).largest(1), 1);
        is("closed(1), closed but not largest", Inputs.with(1, 2, 3).closed(1), 3);
    }

    private static void ruleSetsNotEmptyAndApart() {
        says("Terms: a RULE is a couple of sets that are not empty and have no thing in common");
        // Of w things 3^w couples are apart; 2^w have an empty first set, 2^w an empty second, one has both.
        int[] want = {0, 0, 2, 12, 50, 180, 602, 1932, 6050};
        for (int width = 0; width <= 8; width++) {
            int set = (1 << width) - 1;
            FrequentSets x = Inputs.with(set);
            is("rules(1, 0) of " + set, x.rules(1, 0), want[width]);
            is("rules(1, 100) of " + set, x.rules(1, 100), want[width]);
        }
    }

    private static void ruleOverTheFirst() {
        says("Terms: its strength is the count of the two together over the count of the first one");
        FrequentSets x = Inputs.with(3, 1, 1, 1);
        is("rules(1, 25): 1 to 2 has 1/4, 2 to 1 has 1/1", x.rules(1, 25), 2);
        is("rules(1, 26)", x.rules(1, 26), 1);
        is("rules(1, 100)", x.rules(1, 100), 1);
        FrequentSets y = Inputs.with(3, 2, 2, 2);
        is("rules(1, 25): 1 to 2 has 1/1, 2 to 1 has 1/4", y.rules(1, 25), 2);
        is("rules(1, 26)", y.rules(1, 26), 1);
    }

    private static void newObject() {
        says("Promise 1: no baskets");
        is("count(0)", new FrequentSets().count(0), 0);
        is("drop()", new FrequentSets().drop(), NONE);
        is("closure(0)", new FrequentSets().closure(0), NONE);
        is("companion(1)", new FrequentSets().companion(1), NONE);
        is("frequent(1)", new FrequentSets().frequent(1), 0);
        is("add(255)", new FrequentSets().add(255), 1);
        FrequentSets old = Inputs.times(20, 255);
        is("count(0) beside a full one", new FrequentSets().count(0), 0);
        is("count(0) of the full one", old.count(0), 20);
    }

    private static void addFull() {
        says("Promise 2: 20 baskets are there: FULL");
        FrequentSets x = Inputs.times(19, 1);
        is("add(1) to 19", x.add(1), 20);
        for (int set : new int[] {0, 1, 128, 255}) {
            is("add(" + set + ") to 20", x.add(set), FULL);
        }
        is("drop()", x.drop(), 19);
        is("add(2) to 19", x.add(2), 20);
        is("add(2) to 20", x.add(2), FULL);
    }

    private static void addBad() {
        says("Promise 2: set outside 0..255: BAD");
        for (int n = 0; n < 20; n++) {
            FrequentSets x = Inputs.times(n, 1);
            for (int bad : Inputs.NO_SETS) {
                is("add(" + bad + ") to " + n, x.add(bad), BAD);
            }
        }
    }

    private static void addFullBeforeBad() {
        says("Promise 2: tested in this order: FULL, BAD");
        FrequentSets x = Inputs.times(20, 1);
        for (int bad : Inputs.NO_SETS) {
            is("add(" + bad + ") to 20", x.add(bad), FULL);
        }
    }

    private static void addAnswers() {
        says("Promise 2: else answers the number of baskets");
        FrequentSets x = new FrequentSets();
        for (int n = 1; n <= 20; n++) {
            is("add as number " + n, x.add(255 - n), n);
        }
        x.drop();
        x.drop();
        is("add to 18", x.add(0), 19);
    }

    private static void dropOldest() {
        says("Promise 3: takes the oldest basket away");
        int[] sets = new int[20];
        for (int i = 0; i < 20; i++) {
            sets[i] = i * 37 & 255;
        }
        FrequentSets x = Inputs.with(sets);
        for (int dropped = 1; dropped <= 20; dropped++) {
            x.drop();
            for (int t = 0; t < 8; t++) {
                int left = 0;
                for (int i = dropped; i < 20; i++) {
                    left += sets[i] >> t & 1;
                }
                is("count(" + (1 << t) + ") after " + dropped + " drops", x.count(1 << t), left);
            }
        }
        FrequentSets y = Inputs.with(1, 2, 1);
        y.drop();
        is("count(2) of 2, 1", y.count(2), 1);
        y.drop();
        is("count(2) of 1", y.count(2), 0);
        is("count(1) of 1", y.count(1), 1);
    }

    private static void dropAnswers() {
        says("Promise 3: answers the number of baskets left");
        FrequentSets x = Inputs.times(20, 7);
        for (int left = 19; left >= 0; left--) {
            is("drop() to " + left, x.drop(), left);
            is("count(7) of " + left, x.count(7), left);
        }
    }

    private static void dropNone() {
        says("Promise 3: NONE if there was none");
        FrequentSets x = new FrequentSets();
        is("drop() of a new one", x.drop(), NONE);
        is("drop() again", x.drop(), NONE);
        x.add(5);
        is("drop() of one", x.drop(), 0);
        is("drop() of none", x.drop(), NONE);
        is("add(6) after that", x.add(6), 1);
        is("closure(0) after that", x.closure(0), 6);
    }

    private static void countBad() {
        says("Promise 4: BAD for set outside 0..255");
        for (int bad : Inputs.NO_SETS) {
            is("count(" + bad + ") of none", new FrequentSets().count(bad), BAD);
            is("count(" + bad + ") of 255", Inputs.with(255).count(bad), BAD);
            is("count(" + bad + ") of 20", Inputs.times(20, 255).count(bad), BAD);
        }
    }

    private static void frequentBad() {
        says("Promise 5: BAD for m outside 1..20");
        for (int bad : Inputs.NO_LIMITS) {
            is("frequent(" + bad + ") of none", new FrequentSets().frequent(bad), BAD);
            is("frequent(" + bad + ") of 20", Inputs.times(20, 255).frequent(bad), BAD);
        }
    }

    private static void closedBad() {
        says("Promise 6: BAD for m outside 1..20");
        for (int bad : Inputs.NO_LIMITS) {
            is("closed(" + bad + ") of none", new FrequentSets().closed(bad), BAD);
            is("closed(" + bad + ") of 20", Inputs.times(20, 255).closed(bad), BAD);
        }
    }

    private static void largestBad() {
        says("Promise 7: BAD for m outside 1..20");
        for (int bad : Inputs.NO_LIMITS) {
            is("largest(" + bad + ") of none", new FrequentSets().largest(bad), BAD);
            is("largest(" + bad + ") of 20", Inputs.times(20, 255).largest(bad), BAD);
        }
    }

    private static void closedSetFromZero() {
        says("Promise 8: closed set number k, from 0");
        FrequentSets x = Inputs.with(6, 2);
        is("closedSet(1, 0)", x.closedSet(1, 0), 2);
        is("closedSet(1, 1)", x.closedSet(1, 1), 6);
        is("closedSet(2, 0)", x.closedSet(2, 0), 2);
        is("closedSet(1, closed(1) - 1)", x.closedSet(1, x.closed(1) - 1), 6);
        is("closedSet(1, closed(1))", x.closedSet(1, x.closed(1)), NONE);
    }

    /** All 255 sets are closed here: each basket lacks one thing alone, so each meet of some is another set. */
    private static void closedSetAscending() {
        says("Promise 8: in ascending order of the numbers");
        FrequentSets x = Inputs.with(127, 191, 223, 239, 247, 251, 253, 254, 255);
        is("closed(1)", x.closed(1), 255);
        for (int k = 0; k < 255; k++) {
            is("closedSet(1, " + k + ")", x.closedSet(1, k), k + 1);
        }
        is("closedSet(1, 255)", x.closedSet(1, 255), NONE);
        is("closedSet(2, 253)", x.closedSet(2, 253), 254);
        is("closedSet(2, 254)", x.closedSet(2, 254), NONE);
    }

    private static void closedSetBad() {
        says("Promise 8: m outside 1..20: BAD");
        for (int bad : Inputs.NO_LIMITS) {
            is("closedSet(" + bad + ", 0) of 20", Inputs.times(20, 255).closedSet(bad, 0), BAD);
        }
    }

    private static void closedSetNone() {
        says("Promise 8: there is none: NONE");
        FrequentSets x = Inputs.times(19, 255);
        for (int k : new int[] {Inputs.LOW, -256, -2, -1, 1, 2, 254, 255, 256, Inputs.HIGH}) {
            is("closedSet(1, " + k + ")", x.closedSet(1, k), NONE);
            is("closedSet(19, " + k + ")", x.closedSet(19, k), NONE);
        }
        is("closedSet(20, 0) of 19", x.closedSet(20, 0), NONE);
        is("closedSet(1, 0) of none", new FrequentSets().closedSet(1, 0), NONE);
        is("closedSet(1, 0) of an empty basket", Inputs.with(0).closedSet(1, 0), NONE);
    }

    private static void closedSetBadBeforeNone() {
        says("Promise 8: tested in this order: BAD, NONE");
        for (int bad : Inputs.NO_LIMITS) {
            for (int k : new int[] {Inputs.LOW, -1, 0, 1, 255, Inputs.HIGH}) {
                is("closedSet(" + bad + ", " + k + ") of none", new FrequentSets().closedSet(bad, k), BAD);
            }
        }
    }

    private static void closureEdges() {
        says("Promise 9: the set of all things that every basket with all things of a set has");
        is("closure(0) of an empty basket", Inputs.with(0).closure(0), 0);
        is("closure(0) of 255", Inputs.with(255).closure(0), 255);
        is("closure(255) of 255", Inputs.with(255).closure(255), 255);
        is("closure(0) of 15, 240", Inputs.with(15, 240).closure(0), 0);
        is("closure(1) of 15, 240", Inputs.with(15, 240).closure(1), 15);
        is("closure(128) of 15, 240", Inputs.with(15, 240).closure(128), 240);
    }

    private static void closureBad() {
        says("Promise 9: set outside 0..255: BAD");
        for (int bad : Inputs.NO_SETS) {
            is("closure(" + bad + ") of 255", Inputs.with(255).closure(bad), BAD);
        }
    }

    private static void closureNone() {
        says("Promise 9: no basket has all its things: NONE");
        FrequentSets none = new FrequentSets();
        for (int set = 0; set <= 255; set++) {
            is("closure(" + set + ") of none", none.closure(set), NONE);
        }
        FrequentSets x = Inputs.with(254, 127);
        is("closure(255), one thing is missing in each", x.closure(255), NONE);
        is("closure(129), each has but a part", x.closure(129), NONE);
        is("closure(128)", x.closure(128), 254);
        is("closure(1) of an empty basket", Inputs.with(0).closure(1), NONE);
    }

    private static void closureBadBeforeNone() {
        says("Promise 9: tested in this order: BAD, NONE");
        for (int bad : Inputs.NO_SETS) {
            is("closure(" + bad + ") of none", new FrequentSets().closure(bad), BAD);
            is("closure(" + bad + ") of an empty basket", Inputs.with(0).closure(bad), BAD);
        }
    }

    private static void widestZero() {
        says("Promise 10: 0 if there is none");
        is("widest(1) of none", new FrequentSets().widest(1), 0);
        is("widest(20) of none", new FrequentSets().widest(20), 0);
        is("widest(1) of empty baskets", Inputs.times(20, 0).widest(1), 0);
        is("widest(20) of 19", Inputs.times(19, 255).widest(20), 0);
        is("widest(2), all apart", Inputs.with(1, 2, 4).widest(2), 0);
        is("widest(1), all apart", Inputs.with(1, 2, 4).widest(1), 1);
        is("widest(20), all things", Inputs.times(20, 255).widest(20), 8);
    }

    private static void widestBad() {
        says("Promise 10: BAD for m outside 1..20");
        for (int bad : Inputs.NO_LIMITS) {
            is("widest(" + bad + ") of none", new FrequentSets().widest(bad), BAD);
            is("widest(" + bad + ") of 20", Inputs.times(20, 255).widest(bad), BAD);
        }
    }

    private static void rulesAtLeastPercent() {
        says("Promise 11: whose strength is at least percent / 100");
        is("rules(1, 50): 1 to 2 has 1/2", Inputs.with(3, 1).rules(1, 50), 2);
        is("rules(1, 51): 1 to 2 has 1/2", Inputs.with(3, 1).rules(1, 51), 1);
        is("rules(1, 33): 1 to 2 has 1/3", Inputs.with(3, 1, 1).rules(1, 33), 2);
        is("rules(1, 34): 1 to 2 has 1/3", Inputs.with(3, 1, 1).rules(1, 34), 1);
        FrequentSets most = Inputs.times(19, 3);
        most.add(1);
        is("rules(1, 95): 1 to 2 has 19/20", most.rules(1, 95), 2);
        is("rules(1, 96): 1 to 2 has 19/20", most.rules(1, 96), 1);
        is("rules(1, 100): 1 to 2 has 19/20", most.rules(1, 100), 1);
        FrequentSets uneven = Inputs.times(13, 3);
        uneven.add(1);
        is("rules(1, 92): 1 to 2 has 13/14, more than 92 percent", uneven.rules(1, 92), 2);
        is("rules(1, 93): 1 to 2 has 13/14, less than 93 percent", uneven.rules(1, 93), 1);
        is("rules(1, 100): both have 20/20", Inputs.times(20, 3).rules(1, 100), 2);
        is("rules(1, 0)", most.rules(1, 0), 2);
    }

    private static void rulesTogetherFrequent() {
        says("Promise 11: whose two sets together are frequent for m");
        FrequentSets x = Inputs.with(3, 3, 1, 2);
        is("rules(2, 0): 3 has the count 2", x.rules(2, 0), 2);
        is("rules(3, 0): 1 and 2 have 3, but 3 has 2", x.rules(3, 0), 0);
        // The couple 1, 4 never meets: percent 0 lets in no rule that is not frequent.
        is("rules(1, 0): 1 and 4 never meet", Inputs.with(1, 4).rules(1, 0), 0);
        is("rules(1, 0) of none", new FrequentSets().rules(1, 0), 0);
    }

    private static void rulesBadLimit() {
        says("Promise 11: m outside 1..20: BAD");
        for (int bad : Inputs.NO_LIMITS) {
            for (int percent : new int[] {0, 50, 100}) {
                is("rules(" + bad + ", " + percent + ") of none", new FrequentSets().rules(bad, percent), BAD);
                is("rules(" + bad + ", " + percent + ") of 20", Inputs.times(20, 3).rules(bad, percent), BAD);
            }
            is("rules(" + bad + ", 101)", Inputs.with(3).rules(bad, 101), BAD);
        }
    }

    private static void rulesBadPercent() {
        says("Promise 11: percent outside 0..100: BAD");
        for (int bad : Inputs.NO_PERCENTS) {
            for (int m = 1; m <= 20; m++) {
                is("rules(" + m + ", " + bad + ") of none", new FrequentSets().rules(m, bad), BAD);
                is("rules(" + m + ", " + bad + ") of 20", Inputs.times(20, 3).rules(m, bad), BAD);
            }
        }
    }

    private static void companionSmallest() {
        says("Promise 12: of several the smallest");
        is("companion(1), 6 and 3 as strong", Inputs.with(65, 9).companion(1), 3);
        is("companion(1), 3 and 6 as strong", Inputs.with(9, 65).companion(1), 3);
        is("companion(1), 2 and 7 stronger than 1", Inputs.with(133, 133, 3).companion(1), 2);
        is("companion(16), all as strong", Inputs.with(255).companion(16), 0);
        // No other thing was bought with it: each of these rules has the strength 0.
        is("companion(1), all of strength 0", Inputs.with(1).companion(1), 1);
        is("companion(2), all of strength 0", Inputs.with(2).companion(2), 0);
        is("companion(15), all of strength 0", Inputs.with(15).companion(15), 4);
        is("companion(1), others bought only without it", Inputs.with(1, 8, 8).companion(1), 1);
    }

    private static void companionOutside() {
        says("Promise 12: the thing t outside of a set");
        is("companion(3), inside are the strongest", Inputs.with(131, 3, 3).companion(3), 7);
        is("companion(127), only 7 is outside", Inputs.with(127).companion(127), 7);
        is("companion(254), only 0 is outside", Inputs.with(254).companion(254), 0);
        // Thing 3 is often bought with thing 0, but never with things 0 and 1 both.
        is("companion(3), the whole set counts", Inputs.with(9, 9, 9, 7).companion(3), 2);
    }

    private static void companionBad() {
        says("Promise 12: set outside 1..255: BAD");
        is("companion(0)", Inputs.with(255).companion(0), BAD);
        for (int bad : Inputs.NO_SETS) {
            is("companion(" + bad + ")", Inputs.with(255).companion(bad), BAD);
        }
    }

    private static void companionNoBasket() {
        says("Promise 12: no basket has all its things: NONE");
        FrequentSets none = new FrequentSets();
        for (int set = 1; set <= 255; set++) {
            is("companion(" + set + ") of none", none.companion(set), NONE);
        }
        is("companion(1) of an empty basket", Inputs.with(0).companion(1), NONE);
        is("companion(3), each has but a part", Inputs.with(5, 6).companion(3), NONE);
    }

    private static void companionNothingOutside() {
        says("Promise 12: there is no thing outside of it: NONE");
        is("companion(255) of 255", Inputs.with(255).companion(255), NONE);
        is("companion(255) of 20", Inputs.times(20, 255).companion(255), NONE);
        is("companion(255) of none", new FrequentSets().companion(255), NONE);
    }

    private static void companionBadBeforeNone() {
        says("Promise 12: tested in this order: BAD, NONE");
        is("companion(0) of none", new FrequentSets().companion(0), BAD);
        for (int bad : Inputs.NO_SETS) {
            is("companion(" + bad + ") of none", new FrequentSets().companion(bad), BAD);
        }
    }
}
