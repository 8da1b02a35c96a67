/** Promises 20 to 25. */
public final class SplittingTest {

    private static final int[][] MIXED = {{3, 1, 0}, {2, 4, 5}, {6, 0, 7}};

    public static void main(String[] args) {
        setShare();
        sharesStay();
        outSplit();
        inSplit();
        splitsWithoutShares();
        splitsToTheSixthState();
        splitsAfterStatesWereRemoved();
        outMerge();
        inMerge();
        mergeAtTheLimit();
        higherNumbersGetLower();
        coreSize();
        coreSizeWithoutLimit();
        Due.end();
    }

    private static void setShare() {
        ShiftWorkbench x = Due.bench(Due.row(1));
        for (int state = 0; state < 6; state++) {
            Due.is("setShare(" + state + ", 9)", x.setShare(state, 9), 0);
        }
        for (int state = 0; state < 6; state++) {
            Due.is("setShare(" + state + ", " + state + ")", x.setShare(state, state), 9);
        }
        for (int state = 0; state < 6; state++) {
            Due.is("setShare(" + state + ", 0)", x.setShare(state, 0), state);
        }
    }

    /** Shares belong to numbers of states: no change of the matrix touches them, nor does undo. */
    private static void sharesStay() {
        ShiftWorkbench x = Due.bench(Due.row(9, 9, 9), Due.row(9, 9, 9), Due.row(9, 9, 9));
        Due.share(x, 1, 2, 3, 4, 5, 6);
        x.outSplit(0);
        x.inSplit(0);
        x.undo();
        x.undo();
        x.outMerge(0, 1);
        x.swapSaved();
        x.save();
        x.trim();
        x.outMerge(0, 1);
        x.setEntry(0, 0, 3);
        x.reset(4);
        for (int state = 0; state < 6; state++) {
            Due.is("setShare(" + state + ", 0) after changes", x.setShare(state, 0), state + 1);
        }
        Due.is("undo() after setShare", x.undo(), 3);
        Due.is("setShare(0, 0) after undo()", x.setShare(0, 0), 0);
    }

    private static void outSplit() {
        ShiftWorkbench x = Due.bench(MIXED);
        Due.share(x, 1, 4, 2, 9, 9, 9);
        Due.is("outSplit(1)", x.outSplit(1), 4);
        Due.matrix("after outSplit(1)", x,
                Due.row(3, 1, 0, 1),
                Due.row(1, 0, 3, 0),
                Due.row(6, 0, 7, 0),
                Due.row(1, 4, 2, 4));
        Due.is("undo() of outSplit(1)", x.undo(), 3);
        Due.matrix("after undo() of outSplit(1)", x, MIXED);
    }

    private static void inSplit() {
        ShiftWorkbench x = Due.bench(MIXED);
        Due.share(x, 0, 3, 6, 9, 9, 9);
        Due.is("inSplit(2)", x.inSplit(2), 4);
        Due.matrix("after inSplit(2)", x,
                Due.row(3, 1, 0, 0),
                Due.row(2, 4, 2, 3),
                Due.row(6, 0, 1, 6),
                Due.row(6, 0, 1, 6));
        Due.is("undo() of inSplit(2)", x.undo(), 3);
        Due.matrix("after undo() of inSplit(2)", x, MIXED);
    }

    /** The new state gets no edge of the old one's, but all that are equal on the other side. */
    private static void splitsWithoutShares() {
        ShiftWorkbench x = new ShiftWorkbench();
        Due.is("outSplit(0) without shares", x.outSplit(0), 3);
        Due.matrix("after outSplit(0) without shares", x, Due.row(1, 1, 1), Due.row(1, 1, 1), Due.row(0, 0, 0));
        ShiftWorkbench y = new ShiftWorkbench();
        Due.is("inSplit(0) without shares", y.inSplit(0), 3);
        Due.matrix("after inSplit(0) without shares", y, Due.row(1, 1, 0), Due.row(1, 1, 0), Due.row(1, 1, 0));
        ShiftWorkbench z = Due.bench(Due.row(9));
        Due.share(z, 9);
        Due.is("outSplit(0) with all", z.outSplit(0), 2);
        Due.matrix("after outSplit(0) with all", z, Due.row(0, 0), Due.row(9, 9));
        Due.is("undo()", z.undo(), 2);
        Due.is("inSplit(0) with all", z.inSplit(0), 2);
        Due.matrix("after inSplit(0) with all", z, Due.row(0, 9), Due.row(0, 9));
    }

    /** The shares of 5, which does not exist yet, and of the others that are 0 or all of an entry. */
    private static void splitsToTheSixthState() {
        int[][] rows = {{3, 0, 9, 1, 2}, {1, 0, 0, 0, 0}, {2, 0, 0, 0, 0}, {0, 4, 0, 0, 0}, {5, 0, 0, 0, 6}};
        ShiftWorkbench x = Due.bench(rows);
        Due.share(x, 3, 0, 9, 0, 1, 9);
        Due.is("outSplit(0) to the sixth state", x.outSplit(0), 6);
        Due.matrix("after outSplit(0) to the sixth state", x,
                Due.row(0, 0, 0, 1, 1, 0),
                Due.row(1, 0, 0, 0, 0, 1),
                Due.row(2, 0, 0, 0, 0, 2),
                Due.row(0, 4, 0, 0, 0, 0),
                Due.row(5, 0, 0, 0, 6, 5),
                Due.row(3, 0, 9, 0, 1, 3));
        Due.is("undo()", x.undo(), 3);
        Due.share(x, 1, 0, 0, 0, 6, 9);
        Due.is("inSplit(4) to the sixth state", x.inSplit(4), 6);
        Due.matrix("after inSplit(4) to the sixth state", x,
                Due.row(3, 0, 9, 1, 1, 1),
                Due.row(1, 0, 0, 0, 0, 0),
                Due.row(2, 0, 0, 0, 0, 0),
                Due.row(0, 4, 0, 0, 0, 0),
                Due.row(5, 0, 0, 0, 0, 6),
                Due.row(5, 0, 0, 0, 0, 6));
        Due.is("outSplit(5) of the sixth state", x.outSplit(5), Due.IMPOSSIBLE);
        Due.share(x, 0, 0, 0, 0, 0, 0);
        Due.is("outSplit(5) of the sixth state without shares", x.outSplit(5), Due.LIMIT);
    }

    /** Nothing of the states that were there before comes back with the new one. */
    private static void splitsAfterStatesWereRemoved() {
        ShiftWorkbench x = Due.bench(Due.full(6, 9));
        x.reset(1);
        x.setEntry(0, 0, 2);
        Due.share(x, 1);
        x.outSplit(0);
        Due.matrix("split after reset()", x, Due.row(1, 1), Due.row(1, 1));
        ShiftWorkbench y = Due.bench(Due.row(2, 0, 7), Due.row(0, 0, 7), Due.row(0, 0, 0));
        y.trim();
        y.inSplit(0);
        Due.matrix("split after trim()", y, Due.row(2, 0), Due.row(2, 0));
        ShiftWorkbench z = Due.bench(Due.row(1, 4, 4), Due.row(1, 4, 4), Due.row(8, 5, 5));
        z.outMerge(1, 2);
        Due.matrix("merged", z, Due.row(1, 4), Due.row(9, 9));
        z.outSplit(0);
        Due.matrix("split after outMerge()", z, Due.row(1, 4, 1), Due.row(9, 9, 9), Due.row(0, 0, 0));
    }

    private static void outMerge() {
        int[][] rows = {{1, 2, 4, 2}, {3, 1, 5, 1}, {0, 7, 6, 7}, {2, 0, 3, 0}};
        ShiftWorkbench x = Due.bench(rows);
        Due.is("outMerge(1, 3)", x.outMerge(1, 3), 3);
        Due.matrix("after outMerge(1, 3)", x, Due.row(1, 2, 4), Due.row(5, 1, 8), Due.row(0, 7, 6));
        x.undo();
        Due.matrix("after undo() of outMerge(1, 3)", x, rows);
        Due.is("outMerge(3, 1)", x.outMerge(3, 1), 3);
        Due.matrix("after outMerge(3, 1)", x, Due.row(1, 2, 4), Due.row(5, 1, 8), Due.row(0, 7, 6));
        ShiftWorkbench y = Due.bench(Due.row(2, 2, 1), Due.row(3, 3, 4), Due.row(5, 5, 6));
        Due.is("outMerge(1, 0)", y.outMerge(1, 0), 2);
        Due.matrix("after outMerge(1, 0)", y, Due.row(5, 5), Due.row(5, 6));
    }

    private static void inMerge() {
        int[][] rows = {{1, 3, 0, 2}, {2, 1, 7, 0}, {4, 5, 6, 3}, {2, 1, 7, 0}};
        ShiftWorkbench x = Due.bench(rows);
        Due.is("inMerge(1, 3)", x.inMerge(1, 3), 3);
        Due.matrix("after inMerge(1, 3)", x, Due.row(1, 5, 0), Due.row(2, 1, 7), Due.row(4, 8, 6));
        x.undo();
        Due.matrix("after undo() of inMerge(1, 3)", x, rows);
        Due.is("inMerge(3, 1)", x.inMerge(3, 1), 3);
        Due.matrix("after inMerge(3, 1)", x, Due.row(1, 5, 0), Due.row(2, 1, 7), Due.row(4, 8, 6));
        ShiftWorkbench y = Due.bench(Due.row(2, 3, 5), Due.row(2, 3, 5), Due.row(1, 4, 6));
        Due.is("inMerge(1, 0)", y.inMerge(1, 0), 2);
        Due.matrix("after inMerge(1, 0)", y, Due.row(5, 5), Due.row(5, 6));
    }

    private static void mergeAtTheLimit() {
        ShiftWorkbench x = Due.bench(Due.row(4, 4, 5), Due.row(5, 5, 4), Due.row(9, 9, 9));
        Due.is("outMerge(0, 1) to 9", x.outMerge(0, 1), 2);
        Due.matrix("after outMerge(0, 1) to 9", x, Due.row(9, 9), Due.row(9, 9));
        Due.is("outMerge(0, 1) to 18", x.outMerge(0, 1), Due.LIMIT);
        Due.is("inMerge(0, 1) to 18", x.inMerge(0, 1), Due.LIMIT);
        Due.matrix("after merges to 18", x, Due.row(9, 9), Due.row(9, 9));
        Due.is("undo() after merges to 18", x.undo(), 3);
        Due.is("size() after undo()", x.size(), 3);
        // Only the last column goes above 9, and it is not one of the two.
        ShiftWorkbench y = Due.bench(Due.row(1, 1, 5), Due.row(1, 1, 5), Due.row(2, 2, 0));
        Due.is("outMerge(0, 1) with a 10", y.outMerge(0, 1), Due.LIMIT);
        Due.is("inMerge(0, 1) without a 10", y.inMerge(0, 1), 2);
        Due.matrix("after inMerge(0, 1)", y, Due.row(2, 5), Due.row(4, 0));
    }

    /** "The states with higher numbers than j get a number that is lower by one", for each pair in both orders. */
    private static void higherNumbersGetLower() {
        for (int states = 2; states <= 6; states++) {
            for (int low = 0; low < states; low++) {
                for (int high = low + 1; high < states; high++) {
                    mergeInBothOrders(states, low, high);
                }
            }
        }
    }

    /** Each column has its number in the diagonal, but for the higher of the two, whose column is that of the lower one. */
    private static void mergeInBothOrders(int states, int low, int high) {
        int[][] rows = Due.diagonal(states, 0);
        int[][] merged = Due.diagonal(states - 1, 0);
        for (int state = 0; state < states; state++) {
            int left = state == high ? low : state < high ? state : state - 1;
            rows[state][state == high ? low : state] = state + 1;
            merged[left][left] += state + 1;
        }
        rows[low][high] = rows[low][low];
        rows[high][high] = rows[high][low];
        // 4 + 6 and 5 + 6, of the states 3, 4 and 5.
        boolean isAboveNine = merged[low][low] > 9;
        for (int order = 0; order < 2; order++) {
            int first = order == 0 ? low : high;
            int second = low + high - first;
            String pair = "(" + first + ", " + second + ") of " + states;
            ShiftWorkbench x = Due.bench(rows);
            Due.is("outMerge" + pair, x.outMerge(first, second), isAboveNine ? Due.LIMIT : states - 1);
            Due.matrix("after outMerge" + pair, x, isAboveNine ? rows : merged);
            ShiftWorkbench y = Due.bench(transposed(rows));
            Due.is("inMerge" + pair, y.inMerge(first, second), isAboveNine ? Due.LIMIT : states - 1);
            Due.matrix("after inMerge" + pair, y, isAboveNine ? transposed(rows) : merged);
        }
    }

    private static int[][] transposed(int[][] rows) {
        int[][] columns = new int[rows.length][rows.length];
        for (int row = 0; row < rows.length; row++) {
            for (int column = 0; column < rows.length; column++) {
                columns[column][row] = rows[row][column];
            }
        }
        return columns;
    }

    private static void coreSize() {
        Due.is("coreSize() of ones", new ShiftWorkbench().coreSize(), 1);
        Due.is("coreSize() of one state", Due.bench(Due.row(0)).coreSize(), 1);
        Due.is("coreSize() of nines", Due.bench(Due.full(6, 9)).coreSize(), 1);
        Due.is("coreSize() of zeros", Due.bench(Due.full(6, 0)).coreSize(), 1);
        Due.is("coreSize() of the golden mean", Due.bench(Due.row(1, 1), Due.row(1, 0)).coreSize(), 2);
        Due.is("coreSize() of equal rows alone", Due.bench(Due.row(1, 2), Due.row(1, 2)).coreSize(), 2);
        // The columns of 0 and 1 become equal only when 2 and 3 have been merged.
        int[][] rows = {{0, 0, 1, 1}, {0, 0, 1, 1}, {9, 0, 1, 1}, {0, 9, 2, 2}};
        ShiftWorkbench x = Due.bench(rows);
        Due.is("coreSize() of a merge that makes another one possible", x.coreSize(), 2);
        Due.matrix("after coreSize()", x, rows);
        Due.is("undo() after coreSize() takes the entry before it", x.undo(), 3);
        Due.is("entry(3, 3) after undo()", x.entry(3, 3), 0);
    }

    /** "without regard to the limit of entries": a merge that would be refused counts, and those that follow it. */
    private static void coreSizeWithoutLimit() {
        ShiftWorkbench x = Due.bench(Due.row(9, 9, 0), Due.row(9, 9, 0), Due.row(0, 0, 1));
        Due.is("outMerge(0, 1) above 9", x.outMerge(0, 1), Due.LIMIT);
        Due.is("coreSize() above 9", x.coreSize(), 2);
        // The merge of 0 and 1 makes 18 of the first entry, and only then are the columns of 2 and 3 equal.
        ShiftWorkbench y = Due.bench(Due.row(9, 9, 8, 7), Due.row(9, 9, 2, 3), Due.row(0, 0, 1, 1), Due.row(0, 0, 4, 4));
        Due.is("outMerge(2, 3) before", y.outMerge(2, 3), Due.IMPOSSIBLE);
        Due.is("coreSize() after a merge above 9", y.coreSize(), 2);
        ShiftWorkbench z = Due.bench(Due.row(9, 9, 9), Due.row(9, 9, 9), Due.row(1, 1, 0));
        Due.is("coreSize() of 18 and 18 that differ in the row below", z.coreSize(), 2);
        z.setEntry(2, 2, 1);
        Due.is("coreSize() of 18 and 18 that do not", z.coreSize(), 1);
        ShiftWorkbench apart = Due.bench(Due.row(9, 9, 8), Due.row(9, 9, 9), Due.row(1, 1, 1));
        Due.is("coreSize() of 18 and 17", apart.coreSize(), 2);
    }
}
