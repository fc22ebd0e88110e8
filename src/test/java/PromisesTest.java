/** Each promise by hand: ordinary inputs, the edges that the document names, and wrong inputs. */
public final class PromisesTest {
    private static final int BAD = -1;
    private static final int FULL = -2;
    private static final int NONE = -3;

    private static final Due due = new Due();

    public static void main(String[] args) {
        newObject();
        objectsAreApart();
        add();
        drop();
        dropTakesTheOldest();
        refillAfterDrop();
        count();
        frequent();
        closed();
        largest();
        closedSet();
        closure();
        widest();
        rules();
        rulesAtTheVeryPercent();
        companion();
        refusedCallsChangeNothing();
        due.end();
    }

    /** Bread 1, milk 2, eggs 4: counts 1:5, 2:3, 3:3, 4:2, 5:2, 6:1, 7:1. */
    private static FrequentSets shop() {
        return Inputs.with(1, 3, 3, 5, 7);
    }

    private static void newObject() {
        FrequentSets x = new FrequentSets();
        due.is("new: count(0)", x.count(0), 0);
        due.is("new: count(255)", x.count(255), 0);
        for (int m = 1; m <= 20; m++) {
            due.is("new: frequent(" + m + ")", x.frequent(m), 0);
            due.is("new: closed(" + m + ")", x.closed(m), 0);
            due.is("new: largest(" + m + ")", x.largest(m), 0);
            due.is("new: closedSet(" + m + ", 0)", x.closedSet(m, 0), NONE);
            due.is("new: widest(" + m + ")", x.widest(m), 0);
            due.is("new: rules(" + m + ", 0)", x.rules(m, 0), 0);
        }
        due.is("new: closure(0)", x.closure(0), NONE);
        due.is("new: companion(1)", x.companion(1), NONE);
        due.is("new: drop()", x.drop(), NONE);
        due.is("new: add(0)", x.add(0), 1);
    }

    private static void objectsAreApart() {
        FrequentSets x = Inputs.with(1, 2);
        FrequentSets y = Inputs.with(4);
        due.is("apart: x.count(4)", x.count(4), 0);
        due.is("apart: y.count(0)", y.count(0), 1);
        due.is("apart: x.drop()", x.drop(), 1);
        due.is("apart: y.count(4)", y.count(4), 1);
    }

    private static void add() {
        FrequentSets x = new FrequentSets();
        due.is("add(0)", x.add(0), 1);
        due.is("add(255)", x.add(255), 2);
        due.is("add(255) again", x.add(255), 3);
        for (int bad : Inputs.NO_SETS) {
            due.is("add(" + bad + ")", x.add(bad), BAD);
        }
        for (int n = 4; n <= 20; n++) {
            due.is("add as number " + n, x.add(n), n);
        }
        due.is("full: add(1)", x.add(1), FULL);
        due.is("full: add(0)", x.add(0), FULL);
        for (int bad : Inputs.NO_SETS) {
            due.is("full: add(" + bad + ")", x.add(bad), FULL);
        }
        due.is("full: count(0)", x.count(0), 20);
        due.is("full: drop()", x.drop(), 19);
        due.is("not full any more: add(256)", x.add(256), BAD);
        due.is("not full any more: add(9)", x.add(9), 20);
    }

    private static void drop() {
        FrequentSets x = Inputs.with(1, 2, 4);
        due.is("drop() of 3", x.drop(), 2);
        due.is("drop() of 2", x.drop(), 1);
        due.is("drop() of 1", x.drop(), 0);
        due.is("drop() of 0", x.drop(), NONE);
        due.is("drop() of 0 again", x.drop(), NONE);
        due.is("add(8) after all were dropped", x.add(8), 1);
        due.is("count(8)", x.count(8), 1);
        due.is("count(4)", x.count(4), 0);
    }

    private static void dropTakesTheOldest() {
        FrequentSets x = Inputs.with(1, 2, 4, 2);
        x.drop();
        due.is("oldest: count(1)", x.count(1), 0);
        due.is("oldest: count(2)", x.count(2), 2);
        x.drop();
        due.is("oldest: count(2) after two", x.count(2), 1);
        due.is("oldest: count(4) after two", x.count(4), 1);
        x.drop();
        due.is("oldest: count(2) after three", x.count(2), 1);
        due.is("oldest: count(4) after three", x.count(4), 0);
    }

    private static void refillAfterDrop() {
        FrequentSets x = new FrequentSets();
        for (int n = 0; n < 20; n++) {
            x.add(n);
        }
        for (int n = 20; n < 120; n++) {
            due.is("refill: drop()", x.drop(), 19);
            due.is("refill: count(255)", x.count(255), 0);
            due.is("refill: add(" + n + ")", x.add(n), 20);
        }
        // Now 100 to 119 are there: 96 + 4 .. 96 + 23, so all have 96 and none has 128.
        due.is("refill: count(96)", x.count(96), 20);
        due.is("refill: count(128)", x.count(128), 0);
        due.is("refill: count(16)", x.count(16), 8);
        due.is("refill: closure(0)", x.closure(0), 96);
    }

    private static void count() {
        FrequentSets x = shop();
        int[] want = {5, 5, 3, 3, 2, 2, 1, 1, 0};
        for (int set = 0; set < want.length; set++) {
            due.is("count(" + set + ")", x.count(set), want[set]);
        }
        due.is("count(255)", x.count(255), 0);
        due.is("count(255) of 255", Inputs.with(255, 254, 127).count(255), 1);
        due.is("count(128)", Inputs.with(255, 254, 127).count(128), 2);
        due.is("count(0) of empty baskets", Inputs.with(0, 0).count(0), 2);
        for (int bad : Inputs.NO_SETS) {
            due.is("count(" + bad + ")", x.count(bad), BAD);
        }
    }

    private static void frequent() {
        FrequentSets x = shop();
        int[] want = {7, 5, 3, 1, 1, 0};
        for (int m = 1; m <= want.length; m++) {
            due.is("frequent(" + m + ")", x.frequent(m), want[m - 1]);
        }
        due.is("frequent(20)", x.frequent(20), 0);
        due.is("frequent(20) of 20", Inputs.times(20, 255).frequent(20), 255);
        due.is("frequent(20) of 19", Inputs.times(19, 255).frequent(20), 0);
        due.is("frequent(1) of empty baskets", Inputs.times(20, 0).frequent(1), 0);
        for (int bad : Inputs.NO_LIMITS) {
            due.is("frequent(" + bad + ")", x.frequent(bad), BAD);
        }
    }

    private static void closed() {
        FrequentSets x = shop();
        // Closed are 1 (5), 3 (3), 5 (2), 7 (1); 2 has 3's count, 4 has 5's and 6 has 7's.
        int[] want = {4, 3, 2, 1, 1, 0};
        for (int m = 1; m <= want.length; m++) {
            due.is("closed(" + m + ")", x.closed(m), want[m - 1]);
        }
        due.is("closed(20) of 20", Inputs.times(20, 129).closed(20), 1);
        due.is("closed(20) of 20, all things", Inputs.times(20, 255).closed(20), 1);
        due.is("closed(1) of empty baskets", Inputs.times(3, 0).closed(1), 0);
        due.is("closed(1), meet of two baskets", Inputs.with(3, 6).closed(1), 3);
        due.is("closed(2), meet of two baskets", Inputs.with(3, 6).closed(2), 1);
        for (int bad : Inputs.NO_LIMITS) {
            due.is("closed(" + bad + ")", x.closed(bad), BAD);
        }
    }

    private static void largest() {
        FrequentSets x = shop();
        // Largest: for 1 it is 7; for 2 they are 3 and 5; for 3 it is 3; for 4 and 5 it is 1.
        int[] want = {1, 2, 1, 1, 1, 0};
        for (int m = 1; m <= want.length; m++) {
            due.is("largest(" + m + ")", x.largest(m), want[m - 1]);
        }
        due.is("largest(1), single things", Inputs.with(1, 2, 4, 8, 16, 32, 64, 128).largest(1), 8);
        due.is("largest(1) of 255", Inputs.with(255).largest(1), 1);
        due.is("largest(20) of 20", Inputs.times(20, 255).largest(20), 1);
        due.is("largest(1) of empty baskets", Inputs.times(3, 0).largest(1), 0);
        for (int bad : Inputs.NO_LIMITS) {
            due.is("largest(" + bad + ")", x.largest(bad), BAD);
        }
    }

    private static void closedSet() {
        FrequentSets x = shop();
        int[] want = {1, 3, 5, 7, NONE, NONE};
        for (int k = 0; k < want.length; k++) {
            due.is("closedSet(1, " + k + ")", x.closedSet(1, k), want[k]);
        }
        due.is("closedSet(2, 2)", x.closedSet(2, 2), 5);
        due.is("closedSet(2, 3)", x.closedSet(2, 3), NONE);
        due.is("closedSet(3, 1)", x.closedSet(3, 1), 3);
        due.is("closedSet(6, 0)", x.closedSet(6, 0), NONE);
        due.is("closedSet(20, 0) of 20", Inputs.times(20, 255).closedSet(20, 0), 255);
        due.is("order is not that of the baskets", Inputs.with(128, 1).closedSet(1, 0), 1);
        for (int k : new int[] {Inputs.LOW, -1, 255, 256, Inputs.HIGH}) {
            due.is("closedSet(1, " + k + ")", x.closedSet(1, k), NONE);
        }
        for (int bad : Inputs.NO_LIMITS) {
            due.is("closedSet(" + bad + ", 0)", x.closedSet(bad, 0), BAD);
            due.is("closedSet(" + bad + ", -1)", x.closedSet(bad, -1), BAD);
            due.is("closedSet(" + bad + ", 99)", x.closedSet(bad, 99), BAD);
        }
    }

    private static void closure() {
        FrequentSets x = shop();
        int[] want = {1, 1, 3, 3, 5, 5, 7, 7, NONE};
        for (int set = 0; set < want.length; set++) {
            due.is("closure(" + set + ")", x.closure(set), want[set]);
        }
        due.is("closure(255)", x.closure(255), NONE);
        due.is("closure(255) of 255", Inputs.with(255).closure(255), 255);
        due.is("closure(0) of 255", Inputs.with(255).closure(0), 255);
        due.is("closure(0) of an empty basket", Inputs.with(0, 255).closure(0), 0);
        due.is("closure(128)", Inputs.with(0, 192, 160, 64).closure(128), 128);
        for (int bad : Inputs.NO_SETS) {
            due.is("closure(" + bad + ")", x.closure(bad), BAD);
            due.is("no baskets: closure(" + bad + ")", new FrequentSets().closure(bad), BAD);
        }
    }

    private static void widest() {
        FrequentSets x = shop();
        int[] want = {3, 2, 2, 1, 1, 0};
        for (int m = 1; m <= want.length; m++) {
            due.is("widest(" + m + ")", x.widest(m), want[m - 1]);
        }
        // The widest set is not the one with the greatest number.
        due.is("widest(1), wide set of a small number", Inputs.with(15, 128).widest(1), 4);
        due.is("widest(20) of 20", Inputs.times(20, 255).widest(20), 8);
        due.is("widest(1) of empty baskets", Inputs.times(3, 0).widest(1), 0);
        for (int bad : Inputs.NO_LIMITS) {
            due.is("widest(" + bad + ")", x.widest(bad), BAD);
        }
    }

    private static void rules() {
        FrequentSets x = shop();
        // Together 3: 1>2 3/5, 2>1 3/3. Together 5: 1>4 2/5, 4>1 2/2. Together 6: 2>4 1/3, 4>2 1/2.
        // Together 7: 1>6 1/5, 2>5 1/3, 4>3 1/2, 3>4 1/3, 5>2 1/2, 6>1 1/1.
        int[] percents = {0, 20, 21, 33, 34, 40, 41, 50, 51, 60, 61, 99, 100};
        int[] want = {12, 12, 11, 11, 8, 8, 7, 7, 4, 4, 3, 3, 3};
        for (int i = 0; i < percents.length; i++) {
            due.is("rules(1, " + percents[i] + ")", x.rules(1, percents[i]), want[i]);
        }
        due.is("rules(2, 0)", x.rules(2, 0), 4);
        due.is("rules(2, 60)", x.rules(2, 60), 3);
        due.is("rules(3, 100)", x.rules(3, 100), 1);
        due.is("rules(4, 0)", x.rules(4, 0), 0);
        due.is("rules(20, 100) of 20", Inputs.times(20, 255).rules(20, 100), 6050);
        due.is("rules(1, 0), single things", Inputs.with(1, 2, 4, 128).rules(1, 0), 0);
        for (int bad : Inputs.NO_LIMITS) {
            due.is("rules(" + bad + ", 50)", x.rules(bad, 50), BAD);
            due.is("rules(" + bad + ", 101)", x.rules(bad, 101), BAD);
        }
        for (int bad : Inputs.NO_PERCENTS) {
            due.is("rules(1, " + bad + ")", x.rules(1, bad), BAD);
            due.is("no baskets: rules(1, " + bad + ")", new FrequentSets().rules(1, bad), BAD);
        }
    }

    /** Strength n / d of the rule 1 > 2 is just reached at 100 n / d, rounded up to a whole percent only. */
    private static void rulesAtTheVeryPercent() {
        for (int d = 1; d <= 20; d++) {
            for (int n = 1; n <= d; n++) {
                FrequentSets x = Inputs.times(n, 3);
                for (int i = n; i < d; i++) {
                    x.add(1);
                }
                // 2 > 1 always has strength 1, so there is one rule more.
                int floor = 100 * n / d;
                due.is("rule of " + n + "/" + d + " at " + floor, x.rules(n, floor), 2);
                if (floor < 100) {
                    due.is("rule of " + n + "/" + d + " above " + floor, x.rules(n, floor + 1), 1);
                }
            }
        }
    }

    private static void companion() {
        FrequentSets x = shop();
        due.is("companion(1)", x.companion(1), 1);
        due.is("companion(2)", x.companion(2), 0);
        due.is("companion(3)", x.companion(3), 2);
        due.is("companion(6)", x.companion(6), 0);
        due.is("companion(7), nothing else was bought", x.companion(7), 3);
        due.is("companion(8)", x.companion(8), NONE);
        due.is("companion(255)", x.companion(255), NONE);
        due.is("companion(255) of 255", Inputs.with(255).companion(255), NONE);
        due.is("companion(127) of 127", Inputs.with(127).companion(127), 7);
        due.is("companion(254) of 254", Inputs.with(254).companion(254), 0);
        due.is("companion(1), all alone", Inputs.with(1, 2).companion(1), 1);
        due.is("companion(4), all alone", Inputs.with(4).companion(4), 0);
        due.is("companion(1), two as strong", Inputs.with(65, 33).companion(1), 5);
        due.is("companion(1), the last is strongest", Inputs.with(129, 131).companion(1), 7);
        due.is("companion(0)", x.companion(0), BAD);
        due.is("no baskets: companion(0)", new FrequentSets().companion(0), BAD);
        due.is("no baskets: companion(255)", new FrequentSets().companion(255), NONE);
        for (int bad : Inputs.NO_SETS) {
            due.is("companion(" + bad + ")", x.companion(bad), BAD);
        }
    }

    private static void refusedCallsChangeNothing() {
        FrequentSets none = new FrequentSets();
        refuse(none);
        due.is("refused: drop()", none.drop(), NONE);
        due.is("refused: count(0) of none", none.count(0), 0);
        due.is("refused: add(3) to none", none.add(3), 1);

        FrequentSets x = shop();
        refuse(x);
        looksLikeShop(x);

        FrequentSets full = Inputs.times(20, 6);
        due.is("refused: add(9) to 20", full.add(9), FULL);
        refuse(full);
        due.is("refused: count(0) of 20", full.count(0), 20);
        due.is("refused: count(6) of 20", full.count(6), 20);
        due.is("refused: closure(0) of 20", full.closure(0), 6);
        due.is("refused: drop() of 20", full.drop(), 19);
        due.is("refused: count(6) of 19", full.count(6), 19);
    }

    private static void refuse(FrequentSets x) {
        for (int bad : Inputs.NO_SETS) {
            x.add(bad);
            x.count(bad);
            x.closure(bad);
            x.companion(bad);
        }
        for (int bad : Inputs.NO_LIMITS) {
            x.frequent(bad);
            x.closed(bad);
            x.largest(bad);
            x.closedSet(bad, 0);
            x.widest(bad);
            x.rules(bad, 50);
        }
        x.closedSet(1, -1);
        x.closedSet(1, 255);
        x.closure(128);
        x.rules(1, -1);
        x.rules(1, 101);
        x.companion(0);
        x.companion(128);
        x.companion(255);
    }

    private static void looksLikeShop(FrequentSets x) {
        due.is("refused: count(0) of shop", x.count(0), 5);
        due.is("refused: frequent(1) of shop", x.frequent(1), 7);
        due.is("refused: closed(1) of shop", x.closed(1), 4);
        due.is("refused: rules(1, 0) of shop", x.rules(1, 0), 12);
        due.is("refused: drop() of shop", x.drop(), 4);
        due.is("refused: closure(0) of what is left", x.closure(0), 1);
        due.is("refused: count(2) of what is left", x.count(2), 3);
    }
}
