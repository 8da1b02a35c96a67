import java.util.function.IntToLongFunction;

/**
 * The range of each argument of each call, at each number of states where it matters: the answers from the least
 * to the greatest value that is allowed, and INVALID_ARGUMENT one below, one above and far off.
 */
public final class BoundsTest {

    public static void main(String[] args) {
        resetTakesOneToSix();
        entriesAreFromZeroToNine();
        lengthsOfPathsAreFromZeroToEight();
        lengthsOfBlocksAreFromOneToEight();
        periodsAreFromOneToEight();
        lengthsOfOrbitsAreFromOneToEight();
        powersAreFromZeroToSix();
        sharesAreOfTheStatesZeroToFive();
        sharesAreFromZeroToNine();
        for (int states = 1; states <= 6; states++) {
            setEntryTakesTheStates(states);
            entryTakesTheStates(states);
            entryTakesNoPairThatLiesInTheRoomOfTheMatrix(states);
            pathsTakesTheStates(states);
            componentOfTakesTheStates(states);
            periodOfTakesTheStates(states);
            factorsAreFromOneToTheNumberOfStates(states);
            splitsTakeTheStates(states);
            mergesTakeTwoOfTheStates(states);
        }
        Due.end();
    }

    private static void range(String call, int least, int greatest, IntToLongFunction got, IntToLongFunction want) {
        for (int value = least; value <= greatest; value++) {
            Due.is(call + " of " + value, got.applyAsLong(value), want.applyAsLong(value));
        }
        for (int value : Due.outside(least, greatest)) {
            Due.is(call + " of " + value, got.applyAsLong(value), Due.INVALID);
        }
    }

    /** "the new N, 1 to 6" */
    private static void resetTakesOneToSix() {
        for (int states = 1; states <= 6; states++) {
            int previous = states;
            range("reset() from " + previous + " states", 1, 6,
                    next -> Due.bench(Due.full(previous, 1)).reset(next), next -> previous);
        }
        for (int states = 1; states <= 6; states++) {
            ShiftWorkbench x = Due.bench(Due.full(6, 9));
            x.reset(states);
            Due.matrix("six states after reset(" + states + ")", x, Due.full(states, 0));
            x = Due.bench(Due.row(9));
            x.reset(states);
            Due.matrix("one state after reset(" + states + ")", x, Due.full(states, 0));
        }
    }

    /** "whose entries are from 0 to 9" */
    private static void entriesAreFromZeroToNine() {
        for (int states = 1; states <= 6; states++) {
            int last = states - 1;
            ShiftWorkbench x = Due.bench(Due.full(states, 4));
            range("the value in setEntry(0, " + last + ")", 0, 9,
                    value -> x.setEntry(0, last, value), value -> value == 0 ? 4 : value - 1);
            Due.is("entry(0, " + last + ") after all values", x.entry(0, last), 9);
            range("the value in setEntry(" + last + ", 0)", 0, 9,
                    value -> Due.bench(Due.full(last + 1, 4)).setEntry(last, 0, value), value -> 4);
        }
    }

    /** "length: 0 to 8" */
    private static void lengthsOfPathsAreFromZeroToEight() {
        long[] ofThreeTwos = {0, 2, 12, 72, 432, 2592, 15552, 93312, 559872};
        ShiftWorkbench x = Due.bench(Due.full(3, 2));
        range("the length in paths(0, 2)", 0, 8, n -> x.paths(0, 2, n), n -> ofThreeTwos[n]);
        range("the length in paths(2, 2)", 0, 8, n -> x.paths(2, 2, n), n -> n == 0 ? 1 : ofThreeTwos[n]);
    }

    /** "A block of length n, n at least 1", "length: 1 to 8" */
    private static void lengthsOfBlocksAreFromOneToEight() {
        long[] ofThreeTwos = {0, 18, 108, 648, 3888, 23328, 139968, 839808, 5038848};
        ShiftWorkbench x = Due.bench(Due.full(3, 2));
        range("blocks()", 1, 8, x::blocks, n -> ofThreeTwos[n]);
    }

    /** "period: 1 to 8" */
    private static void periodsAreFromOneToEight() {
        long[] ofThreeTwos = {0, 6, 36, 216, 1296, 7776, 46656, 279936, 1679616};
        ShiftWorkbench x = Due.bench(Due.full(3, 2));
        range("periodicPoints()", 1, 8, x::periodicPoints, n -> ofThreeTwos[n]);
    }

    /** "length: 1 to 8" */
    private static void lengthsOfOrbitsAreFromOneToEight() {
        long[] ofThreeTwos = {0, 6, 15, 70, 315, 1554, 7735, 39990, 209790};
        ShiftWorkbench x = Due.bench(Due.full(3, 2));
        range("orbits()", 1, 8, x::orbits, n -> ofThreeTwos[n]);
    }

    /** "power: 0 to 6", "(0 if power is greater than N)" */
    private static void powersAreFromZeroToSix() {
        // The powers of 1 - 2t.
        long[][] ofTwos = {
            {1, -2}, {1, -4, 4}, {1, -6, 12, -8}, {1, -8, 24, -32, 16},
            {1, -10, 40, -80, 80, -32}, {1, -12, 60, -160, 240, -192, 64}};
        for (int states = 1; states <= 6; states++) {
            long[] want = ofTwos[states - 1];
            ShiftWorkbench x = Due.bench(Due.diagonal(states, 2));
            range("coefficient() of " + states + " states", 0, 6,
                    x::coefficient, power -> power < want.length ? want[power] : 0);
        }
    }

    /** "state: 0 to 5", "whether it exists or not" */
    private static void sharesAreOfTheStatesZeroToFive() {
        for (int states = 1; states <= 6; states++) {
            ShiftWorkbench x = Due.bench(Due.full(states, 1));
            range("the state in setShare() at first", 0, 5, state -> x.setShare(state, 3), state -> 0);
            range("the state in setShare() again", 0, 5, state -> x.setShare(state, 0), state -> 3);
        }
    }

    /** "There is a share for each state j, from 0 to 9, initially 0." */
    private static void sharesAreFromZeroToNine() {
        for (int state = 0; state < 6; state++) {
            int shared = state;
            ShiftWorkbench x = new ShiftWorkbench();
            range("the share in setShare(" + state + ")", 0, 9,
                    share -> x.setShare(shared, share), share -> Math.max(share - 1, 0));
            Due.is("setShare(" + state + ", 0) after all shares", x.setShare(state, 0), 9);
        }
    }

    /** "row: number of a state", "column: number of a state" */
    private static void setEntryTakesTheStates(int states) {
        for (int state = 0; state < states; state++) {
            int fixed = state;
            range("the row in setEntry() of " + states + " states", 0, states - 1,
                    row -> Due.bench(distinct(states)).setEntry(row, fixed, 5), row -> distinct(states)[row][fixed]);
            range("the column in setEntry() of " + states + " states", 0, states - 1,
                    column -> Due.bench(distinct(states)).setEntry(fixed, column, 5), column -> distinct(states)[fixed][column]);
        }
    }

    /** "row: number of a state", "column: number of a state" */
    private static void entryTakesTheStates(int states) {
        ShiftWorkbench x = Due.bench(distinct(states));
        for (int state = 0; state < states; state++) {
            int fixed = state;
            range("the row in entry() of " + states + " states", 0, states - 1,
                    row -> x.entry(row, fixed), row -> distinct(states)[row][fixed]);
            range("the column in entry() of " + states + " states", 0, states - 1,
                    column -> x.entry(fixed, column), column -> distinct(states)[fixed][column]);
        }
    }

    /** Two wrong numbers, or a wrong one and a right one, that together tell a place in some layout of the entries. */
    private static void entryTakesNoPairThatLiesInTheRoomOfTheMatrix(int states) {
        ShiftWorkbench x = Due.bench(distinct(states));
        for (int row = -2 * states; row <= 2 * states; row++) {
            for (int column = -14; column <= 14; column++) {
                boolean both = row >= 0 && row < states && column >= 0 && column < states;
                String pair = "(" + row + ", " + column + ") of " + states + " states";
                Due.is("entry" + pair, x.entry(row, column), both ? distinct(states)[row][column] : Due.INVALID);
                if (!both) {
                    Due.is("setEntry" + pair, x.setEntry(row, column, 1), Due.INVALID);
                    Due.is("paths" + pair, x.paths(row, column, 0), Due.INVALID);
                }
            }
        }
        Due.matrix("after pairs that are no places", x, distinct(states));
    }

    /** "from: number of a state", "to: number of a state" */
    private static void pathsTakesTheStates(int states) {
        ShiftWorkbench x = Due.bench(distinct(states));
        for (int state = 0; state < states; state++) {
            int fixed = state;
            range("the first state in paths() of " + states + " states", 0, states - 1,
                    from -> x.paths(from, fixed, 1), from -> distinct(states)[from][fixed]);
            range("the last state in paths() of " + states + " states", 0, states - 1,
                    to -> x.paths(fixed, to, 1), to -> distinct(states)[fixed][to]);
            range("the first state in paths() of length 0", 0, states - 1,
                    from -> x.paths(from, fixed, 0), from -> from == fixed ? 1 : 0);
            range("the last state in paths() of length 0", 0, states - 1,
                    to -> x.paths(fixed, to, 0), to -> to == fixed ? 1 : 0);
        }
    }

    /** "INVALID_ARGUMENT if there is no such state" */
    private static void componentOfTakesTheStates(int states) {
        ShiftWorkbench apart = Due.bench(Due.diagonal(states, 1));
        range("componentOf() of " + states + " states apart", 0, states - 1, apart::componentOf, state -> state);
        ShiftWorkbench joined = Due.bench(Due.full(states, 1));
        range("componentOf() of " + states + " states joined", 0, states - 1, joined::componentOf, state -> 0);
    }

    /** "INVALID_ARGUMENT if there is no such state; NOT_FOUND if it does not exist." */
    private static void periodOfTakesTheStates(int states) {
        ShiftWorkbench ring = Due.bench(Due.ring(states));
        range("periodOf() of a ring of " + states, 0, states - 1, ring::periodOf, state -> states);
        ShiftWorkbench none = Due.bench(Due.full(states, 0));
        range("periodOf() of " + states + " states without edges", 0, states - 1, none::periodOf, state -> Due.NOT_FOUND);
    }

    /** "k: 1 to N" */
    private static void factorsAreFromOneToTheNumberOfStates(int states) {
        ShiftWorkbench x = Due.bench(Due.diagonal(states, 4));
        range("factor() of " + states + " states", 1, states, x::factor, k -> 3);
    }

    /** "state: number of a state", "LIMIT_REACHED if N is 6" */
    private static void splitsTakeTheStates(int states) {
        int want = states == 6 ? Due.LIMIT : states + 1;
        range("outSplit() of " + states + " states", 0, states - 1,
                state -> Due.bench(Due.full(states, 1)).outSplit(state), state -> want);
        range("inSplit() of " + states + " states", 0, states - 1,
                state -> Due.bench(Due.full(states, 1)).inSplit(state), state -> want);
    }

    /** "INVALID_ARGUMENT if there is no such state or both are the same" */
    private static void mergesTakeTwoOfTheStates(int states) {
        for (int state = 0; state < states; state++) {
            int fixed = state;
            IntToLongFunction want = other -> other == fixed ? Due.INVALID : states - 1;
            range("the second state in outMerge(" + fixed + ", ..) of " + states, 0, states - 1,
                    other -> Due.bench(Due.full(states, 1)).outMerge(fixed, other), want);
            range("the first state in outMerge(.., " + fixed + ") of " + states, 0, states - 1,
                    other -> Due.bench(Due.full(states, 1)).outMerge(other, fixed), want);
            range("the second state in inMerge(" + fixed + ", ..) of " + states, 0, states - 1,
                    other -> Due.bench(Due.full(states, 1)).inMerge(fixed, other), want);
            range("the first state in inMerge(.., " + fixed + ") of " + states, 0, states - 1,
                    other -> Due.bench(Due.full(states, 1)).inMerge(other, fixed), want);
        }
        for (int wrong : Due.outside(0, states - 1)) {
            ShiftWorkbench x = Due.bench(Due.full(states, 1));
            Due.is("outMerge(" + wrong + ", " + wrong + ")", x.outMerge(wrong, wrong), Due.INVALID);
            Due.is("inMerge(" + wrong + ", " + wrong + ")", x.inMerge(wrong, wrong), Due.INVALID);
        }
    }

    /** Entries by which rows, columns and their order can be told apart. */
    private static int[][] distinct(int states) {
        int[][] rows = new int[states][states];
        for (int row = 0; row < states; row++) {
            for (int column = 0; column < states; column++) {
                rows[row][column] = (3 * row + 7 * column + 2) % 10;
            }
        }
        return rows;
    }
}
