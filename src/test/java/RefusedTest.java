import java.util.function.ToIntFunction;

/** Promise 13: each call that can be refused, alone and in every state that refuses it, changes nothing. */
public final class RefusedTest {
    private static final int BAD = -1;
    private static final int FULL = -2;
    private static final int NONE = -3;

    private static final int[] NO_BASKETS = {};
    private static final int[] EMPTY_BASKET = {0};
    private static final int[] SOME = {1, 3, 3, 5, 7};
    private static final int[] NINETEEN = {1, 2, 4, 8, 16, 32, 64, 3, 6, 12, 24, 48, 96, 7, 14, 28, 56, 112, 127};
    private static final int[] TWENTY = {1, 2, 4, 8, 16, 32, 64, 3, 6, 12, 24, 48, 96, 7, 14, 28, 56, 112, 127, 0};
    private static final int[][] STATES = {NO_BASKETS, EMPTY_BASKET, SOME, NINETEEN, TWENTY};

    private static final Due due = new Due();

    public static void main(String[] args) {
        addRefused();
        dropRefused();
        badSets();
        badLimits();
        badPercents();
        noSuchClosedSet();
        noBasketHasIt();
        nothingOutside();
        answersOfZeroAreNoChange();
        due.end();
    }

    /** Asks the one call on a new object with these baskets, and then looks at all that can be seen of it. */
    private static void changesNothing(String call, int[] baskets, ToIntFunction<FrequentSets> ask, int code) {
        FrequentSets x = Inputs.with(baskets);
        String then = call + " with " + baskets.length + " baskets";
        due.is(then, ask.applyAsInt(x), code);
        for (int set = 0; set <= 255; set++) {
            due.is(then + ", then count(" + set + ")", x.count(set), countIn(baskets, 0, set));
        }
        for (int gone = 1; gone <= baskets.length; gone++) {
            due.is(then + ", then drop() number " + gone, x.drop(), baskets.length - gone);
            for (int thing = 1; thing <= 128; thing *= 2) {
                due.is(then + ", then " + gone + " drops, count(" + thing + ")",
                        x.count(thing), countIn(baskets, gone, thing));
            }
        }
        due.is(then + ", then all dropped and add(9)", x.add(9), 1);
        due.is(then + ", then all dropped and add(9), closure(0)", x.closure(0), 9);
    }

    private static int countIn(int[] baskets, int from, int set) {
        int found = 0;
        for (int i = from; i < baskets.length; i++) {
            found += (set & ~baskets[i]) == 0 ? 1 : 0;
        }
        return found;
    }

    private static void addRefused() {
        for (int bad : Inputs.NO_SETS) {
            for (int[] state : STATES) {
                changesNothing("add(" + bad + ")", state, x -> x.add(bad), state == TWENTY ? FULL : BAD);
            }
        }
        for (int set : new int[] {0, 1, 128, 255}) {
            changesNothing("add(" + set + ")", TWENTY, x -> x.add(set), FULL);
        }
    }

    private static void dropRefused() {
        changesNothing("drop()", NO_BASKETS, x -> x.drop(), NONE);
    }

    private static void badSets() {
        for (int[] state : STATES) {
            for (int bad : Inputs.NO_SETS) {
                changesNothing("count(" + bad + ")", state, x -> x.count(bad), BAD);
                changesNothing("closure(" + bad + ")", state, x -> x.closure(bad), BAD);
                changesNothing("companion(" + bad + ")", state, x -> x.companion(bad), BAD);
            }
            changesNothing("companion(0)", state, x -> x.companion(0), BAD);
        }
    }

    private static void badLimits() {
        for (int[] state : STATES) {
            for (int bad : Inputs.NO_LIMITS) {
                changesNothing("frequent(" + bad + ")", state, x -> x.frequent(bad), BAD);
                changesNothing("closed(" + bad + ")", state, x -> x.closed(bad), BAD);
                changesNothing("largest(" + bad + ")", state, x -> x.largest(bad), BAD);
                changesNothing("closedSet(" + bad + ", 0)", state, x -> x.closedSet(bad, 0), BAD);
                changesNothing("widest(" + bad + ")", state, x -> x.widest(bad), BAD);
                changesNothing("rules(" + bad + ", 50)", state, x -> x.rules(bad, 50), BAD);
            }
        }
    }

    private static void badPercents() {
        for (int[] state : STATES) {
            for (int bad : Inputs.NO_PERCENTS) {
                changesNothing("rules(1, " + bad + ")", state, x -> x.rules(1, bad), BAD);
            }
        }
    }

    private static void noSuchClosedSet() {
        for (int[] state : STATES) {
            for (int k : new int[] {Inputs.LOW, -1, 255, Inputs.HIGH}) {
                changesNothing("closedSet(1, " + k + ")", state, x -> x.closedSet(1, k), NONE);
            }
            changesNothing("closedSet(20, 0)", state, x -> x.closedSet(20, 0), NONE);
        }
    }

    private static void noBasketHasIt() {
        changesNothing("closure(0)", NO_BASKETS, x -> x.closure(0), NONE);
        for (int[] state : STATES) {
            changesNothing("closure(128)", state, x -> x.closure(128), NONE);
            changesNothing("closure(255)", state, x -> x.closure(255), NONE);
            changesNothing("companion(128)", state, x -> x.companion(128), NONE);
            changesNothing("companion(255)", state, x -> x.companion(255), NONE);
        }
    }

    private static void nothingOutside() {
        changesNothing("companion(255)", new int[] {255, 1, 255}, x -> x.companion(255), NONE);
    }

    /** Not refused, but the answer is 0 as there is nothing to find: no question moves a basket either. */
    private static void answersOfZeroAreNoChange() {
        for (int[] state : new int[][] {NO_BASKETS, EMPTY_BASKET}) {
            changesNothing("frequent(1)", state, x -> x.frequent(1), 0);
            changesNothing("closed(1)", state, x -> x.closed(1), 0);
            changesNothing("largest(1)", state, x -> x.largest(1), 0);
            changesNothing("widest(1)", state, x -> x.widest(1), 0);
            changesNothing("rules(1, 0)", state, x -> x.rules(1, 0), 0);
        }
    }
}
