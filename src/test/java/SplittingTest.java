/** Promises 20 to 25. */
public final class SplittingTest {

    private static final int[][] MIXED = {{3, 1, 0}, {2, 4, 5}, {6, 0, 7}};

    public static void main(String[] args) {
        setShare();
        sharesStay();
        outSplit();
        inSplit();
        splitsWithoutShares();
        splitErrors();
        splitAtTheLimit();
        outMerge();
        inMerge();
        mergeErrors();
        mergeAtTheLimit();
        coreSize();
        Due.end();
    }

    private static void share(ShiftWorkbench x, int... shares) {
        for (int state = 0; state < shares.length; state++) {
            x.setShare(state, shares[state]);
        }
    }

    private static void setShare() {
        ShiftWorkbench x = Due.bench(Due.row(1));
        for (int state = 0; state < 6; state++) {
            Due.is("setShare(" + state + ", 9)", x.setShare(state, 9), 0);
        }
        for (int state = 0; state < 6; state++) {
            Due.is("setShare(" + state + ", " + state + ")", x.setShare(state, state), 9);
        }
        Due.is("setShare(0, 10)", x.setShare(0, 10), Due.INVALID);
        Due.is("setShare(0, -1)", x.setShare(0, -1), Due.INVALID);
        Due.is("setShare(0, MAX)", x.setShare(0, Integer.MAX_VALUE), Due.INVALID);
        for (int state : Due.NO_STATES) {
            Due.is("setShare(" + state + ", 1)", x.setShare(state, 1), Due.INVALID);
        }
        for (int state = 0; state < 6; state++) {
            Due.is("setShare(" + state + ", 0)", x.setShare(state, 0), state);
        }
    }

    /** Shares belong to numbers of states: no change of the matrix touches them, nor does undo. */
    private static void sharesStay() {
        ShiftWorkbench x = Due.bench(Due.row(9, 9, 9), Due.row(9, 9, 9), Due.row(9, 9, 9));
        share(x, 1, 2, 3, 4, 5, 6);
        x.outSplit(0);
        x.inSplit(0);
        x.undo();
        x.undo();
        x.outMerge(0, 1);
        x.swapSaved();
        x.save();
        x.trim();
        x.outMerge(0, 1);
        x.setEntry(0, 0, 3);
        x.reset(4);
        for (int state = 0; state < 6; state++) {
            Due.is("setShare(" + state + ", 0) after changes", x.setShare(state, 0), state + 1);
        }
        Due.is("undo() after setShare", x.undo(), 3);
        Due.is("setShare(0, 0) after undo()", x.setShare(0, 0), 0);
    }

    private static void outSplit() {
        ShiftWorkbench x = Due.bench(MIXED);
        share(x, 1, 4, 2, 9, 9, 9);
        Due.is("outSplit(1)", x.outSplit(1), 4);
        Due.matrix("after outSplit(1)", x,
                Due.row(3, 1, 0, 1),
                Due.row(1, 0, 3, 0),
                Due.row(6, 0, 7, 0),
                Due.row(1, 4, 2, 4));
        Due.is("undo() of outSplit(1)", x.undo(), 3);
        Due.matrix("after undo() of outSplit(1)", x, MIXED);
    }

    private static void inSplit() {
        ShiftWorkbench x = Due.bench(MIXED);
        share(x, 0, 3, 6, 9, 9, 9);
        Due.is("inSplit(2)", x.inSplit(2), 4);
        Due.matrix("after inSplit(2)", x,
                Due.row(3, 1, 0, 0),
                Due.row(2, 4, 2, 3),
                Due.row(6, 0, 1, 6),
                Due.row(6, 0, 1, 6));
        Due.is("undo() of inSplit(2)", x.undo(), 3);
        Due.matrix("after undo() of inSplit(2)", x, MIXED);
    }

    /** The new state gets no edge of the old one's, but all that are equal on the other side. */
    private static void splitsWithoutShares() {
        ShiftWorkbench x = new ShiftWorkbench();
        Due.is("outSplit(0) without shares", x.outSplit(0), 3);
        Due.matrix("after outSplit(0) without shares", x, Due.row(1, 1, 1), Due.row(1, 1, 1), Due.row(0, 0, 0));
        ShiftWorkbench y = new ShiftWorkbench();
        Due.is("inSplit(0) without shares", y.inSplit(0), 3);
        Due.matrix("after inSplit(0) without shares", y, Due.row(1, 1, 0), Due.row(1, 1, 0), Due.row(1, 1, 0));
        ShiftWorkbench z = Due.bench(Due.row(9));
        share(z, 9);
        Due.is("outSplit(0) with all", z.outSplit(0), 2);
        Due.matrix("after outSplit(0) with all", z, Due.row(0, 0), Due.row(9, 9));
        Due.is("undo()", z.undo(), 2);
        Due.is("inSplit(0) with all", z.inSplit(0), 2);
        Due.matrix("after inSplit(0) with all", z, Due.row(0, 9), Due.row(0, 9));
    }

    private static void splitErrors() {
        ShiftWorkbench x = Due.bench(MIXED);
        for (int state : Due.NO_STATES) {
            Due.is("outSplit(" + state + ")", x.outSplit(state), Due.INVALID);
            Due.is("inSplit(" + state + ")", x.inSplit(state), Due.INVALID);
        }
        share(x, 4, 2, 0, 9, 9, 9);
        Due.is("outSplit(3)", x.outSplit(3), Due.INVALID);
        Due.is("inSplit(3)", x.inSplit(3), Due.INVALID);
        Due.is("outSplit(0): 4 of 3", x.outSplit(0), Due.IMPOSSIBLE);
        Due.is("inSplit(0): 4 of 3", x.inSplit(0), Due.IMPOSSIBLE);
        Due.is("outSplit(2): 2 of 0", x.outSplit(2), Due.IMPOSSIBLE);
        share(x, 0, 0, 6);
        Due.is("outSplit(1): 6 of 5", x.outSplit(1), Due.IMPOSSIBLE);
        Due.is("inSplit(1): 6 of 0", x.inSplit(1), Due.IMPOSSIBLE);
        Due.matrix("after wrong splits", x, MIXED);
        Due.is("undo() after wrong splits takes the entry before them", x.undo(), 3);
        Due.is("entry(2, 2) after undo()", x.entry(2, 2), 0);
    }

    private static void splitAtTheLimit() {
        ShiftWorkbench x = Due.bench(Due.full(6, 1));
        Due.is("outSplit(5) of six", x.outSplit(5), Due.LIMIT);
        Due.is("inSplit(5) of six", x.inSplit(5), Due.LIMIT);
        share(x, 0, 0, 0, 0, 0, 2);
        Due.is("outSplit(5) of six with too great a share", x.outSplit(5), Due.IMPOSSIBLE);
        Due.is("inSplit(5) of six with too great a share", x.inSplit(5), Due.IMPOSSIBLE);
        Due.is("outSplit(6) of six", x.outSplit(6), Due.INVALID);
        Due.is("inSplit(6) of six", x.inSplit(6), Due.INVALID);
        Due.matrix("after wrong splits of six", x, Due.full(6, 1));
        ShiftWorkbench y = Due.bench(Due.full(5, 1));
        Due.is("outSplit(4) of five", y.outSplit(4), 6);
        Due.is("undo()", y.undo(), 3);
        Due.is("inSplit(4) of five", y.inSplit(4), 6);
    }

    private static void outMerge() {
        int[][] rows = {{1, 2, 4, 2}, {3, 1, 5, 1}, {0, 7, 6, 7}, {2, 0, 3, 0}};
        ShiftWorkbench x = Due.bench(rows);
        Due.is("outMerge(1, 3)", x.outMerge(1, 3), 3);
        Due.matrix("after outMerge(1, 3)", x, Due.row(1, 2, 4), Due.row(5, 1, 8), Due.row(0, 7, 6));
        x.undo();
        Due.matrix("after undo() of outMerge(1, 3)", x, rows);
        Due.is("outMerge(3, 1)", x.outMerge(3, 1), 3);
        Due.matrix("after outMerge(3, 1)", x, Due.row(1, 2, 4), Due.row(5, 1, 8), Due.row(0, 7, 6));
        ShiftWorkbench y = Due.bench(Due.row(2, 2, 1), Due.row(3, 3, 4), Due.row(5, 5, 6));
        Due.is("outMerge(1, 0)", y.outMerge(1, 0), 2);
        Due.matrix("after outMerge(1, 0)", y, Due.row(5, 5), Due.row(5, 6));
    }

    private static void inMerge() {
        int[][] rows = {{1, 3, 0, 2}, {2, 1, 7, 0}, {4, 5, 6, 3}, {2, 1, 7, 0}};
        ShiftWorkbench x = Due.bench(rows);
        Due.is("inMerge(1, 3)", x.inMerge(1, 3), 3);
        Due.matrix("after inMerge(1, 3)", x, Due.row(1, 5, 0), Due.row(2, 1, 7), Due.row(4, 8, 6));
        x.undo();
        Due.matrix("after undo() of inMerge(1, 3)", x, rows);
        Due.is("inMerge(3, 1)", x.inMerge(3, 1), 3);
        Due.matrix("after inMerge(3, 1)", x, Due.row(1, 5, 0), Due.row(2, 1, 7), Due.row(4, 8, 6));
        ShiftWorkbench y = Due.bench(Due.row(2, 3, 5), Due.row(2, 3, 5), Due.row(1, 4, 6));
        Due.is("inMerge(1, 0)", y.inMerge(1, 0), 2);
        Due.matrix("after inMerge(1, 0)", y, Due.row(5, 5), Due.row(5, 6));
    }

    private static void mergeErrors() {
        ShiftWorkbench x = Due.bench(Due.row(1, 1, 2), Due.row(1, 1, 3), Due.row(2, 2, 2));
        for (int state : Due.NO_STATES) {
            Due.is("outMerge(" + state + ", 0)", x.outMerge(state, 0), Due.INVALID);
            Due.is("outMerge(0, " + state + ")", x.outMerge(0, state), Due.INVALID);
            Due.is("outMerge(" + state + ", " + state + ")", x.outMerge(state, state), Due.INVALID);
            Due.is("inMerge(" + state + ", 0)", x.inMerge(state, 0), Due.INVALID);
            Due.is("inMerge(0, " + state + ")", x.inMerge(0, state), Due.INVALID);
            Due.is("inMerge(" + state + ", " + state + ")", x.inMerge(state, state), Due.INVALID);
        }
        for (int state = 0; state <= 3; state++) {
            Due.is("outMerge(" + state + ", " + state + ")", x.outMerge(state, state), Due.INVALID);
            Due.is("inMerge(" + state + ", " + state + ")", x.inMerge(state, state), Due.INVALID);
        }
        Due.is("outMerge(0, 3)", x.outMerge(0, 3), Due.INVALID);
        Due.is("inMerge(3, 0)", x.inMerge(3, 0), Due.INVALID);
        Due.is("outMerge(1, 2)", x.outMerge(1, 2), Due.IMPOSSIBLE);
        Due.is("inMerge(0, 1): rows apart in the last column", x.inMerge(0, 1), Due.IMPOSSIBLE);
        Due.is("inMerge(1, 2)", x.inMerge(1, 2), Due.IMPOSSIBLE);
        Due.is("size() after wrong merges", x.size(), 3);
        Due.is("outMerge(0, 1)", x.outMerge(0, 1), 2);
    }

    private static void mergeAtTheLimit() {
        ShiftWorkbench x = Due.bench(Due.row(4, 4, 5), Due.row(5, 5, 4), Due.row(9, 9, 9));
        Due.is("outMerge(0, 1) to 9", x.outMerge(0, 1), 2);
        Due.matrix("after outMerge(0, 1) to 9", x, Due.row(9, 9), Due.row(9, 9));
        Due.is("outMerge(0, 1) to 18", x.outMerge(0, 1), Due.LIMIT);
        Due.is("inMerge(0, 1) to 18", x.inMerge(0, 1), Due.LIMIT);
        Due.matrix("after merges to 18", x, Due.row(9, 9), Due.row(9, 9));
        Due.is("undo() after merges to 18", x.undo(), 3);
        Due.is("size() after undo()", x.size(), 3);
        // Only the last column goes above 9, and it is not one of the two.
        ShiftWorkbench y = Due.bench(Due.row(1, 1, 5), Due.row(1, 1, 5), Due.row(2, 2, 0));
        Due.is("outMerge(0, 1) with a 10", y.outMerge(0, 1), Due.LIMIT);
        Due.is("inMerge(0, 1) without a 10", y.inMerge(0, 1), 2);
        Due.matrix("after inMerge(0, 1)", y, Due.row(2, 5), Due.row(4, 0));
        // Columns that differ come before an entry that would be too great.
        ShiftWorkbench z = Due.bench(Due.row(9, 8), Due.row(9, 9));
        Due.is("outMerge(0, 1) of other columns", z.outMerge(0, 1), Due.IMPOSSIBLE);
        Due.is("inMerge(0, 1) of other rows", z.inMerge(0, 1), Due.IMPOSSIBLE);
    }

    private static void coreSize() {
        Due.is("coreSize() of ones", new ShiftWorkbench().coreSize(), 1);
        Due.is("coreSize() of one state", Due.bench(Due.row(0)).coreSize(), 1);
        Due.is("coreSize() of nines", Due.bench(Due.full(6, 9)).coreSize(), 1);
        Due.is("coreSize() of zeros", Due.bench(Due.full(6, 0)).coreSize(), 1);
        Due.is("coreSize() of the golden mean", Due.bench(Due.row(1, 1), Due.row(1, 0)).coreSize(), 2);
        Due.is("coreSize() of equal rows alone", Due.bench(Due.row(1, 2), Due.row(1, 2)).coreSize(), 2);
        // The columns of 0 and 1 become equal only when 2 and 3 have been merged.
        int[][] rows = {{0, 0, 1, 1}, {0, 0, 1, 1}, {9, 0, 1, 1}, {0, 9, 2, 2}};
        ShiftWorkbench x = Due.bench(rows);
        Due.is("coreSize() of a merge that makes another one possible", x.coreSize(), 2);
        Due.matrix("after coreSize()", x, rows);
        Due.is("undo() after coreSize() takes the entry before it", x.undo(), 3);
        Due.is("entry(3, 3) after undo()", x.entry(3, 3), 0);
    }
}
