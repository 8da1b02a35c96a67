/** Promises 1 to 7. */
public final class MatrixTest {

    public static void main(String[] args) {
        newObject();
        objectsAreApart();
        reset();
        setEntry();
        entry();
        essentialStates();
        essentialStatesOfAChainWithLoops();
        trim();
        trimOfEachSet();
        Due.end();
    }

    private static void newObject() {
        ShiftWorkbench x = new ShiftWorkbench();
        Due.matrix("new", x, Due.full(2, 1));
        Due.is("new: differences()", x.differences(), 0);
        Due.is("new: undo()", x.undo(), Due.IMPOSSIBLE);
        for (int state = 0; state < 6; state++) {
            Due.is("new: setShare(" + state + ", 0)", x.setShare(state, 0), 0);
        }
        Due.is("new: swapSaved()", x.swapSaved(), 2);
        Due.matrix("new, swapped", x, Due.full(2, 1));
    }

    private static void objectsAreApart() {
        ShiftWorkbench x = new ShiftWorkbench();
        ShiftWorkbench y = new ShiftWorkbench();
        x.setEntry(0, 0, 7);
        x.setShare(0, 3);
        x.save();
        Due.matrix("another object", y, Due.full(2, 1));
        Due.is("another object: setShare(0, 0)", y.setShare(0, 0), 0);
        Due.is("another object: differences()", y.differences(), 0);
        Due.is("another object: undo()", y.undo(), Due.IMPOSSIBLE);
    }

    private static void reset() {
        ShiftWorkbench x = new ShiftWorkbench();
        int previous = 2;
        for (int states = 1; states <= 6; states++) {
            Due.is("reset(" + states + ")", x.reset(states), previous);
            Due.matrix("after reset(" + states + ")", x, Due.full(states, 0));
            x.setEntry(states - 1, 0, 9);
            previous = states;
        }
        Due.is("reset(6) from 6", x.reset(6), 6);
        Due.matrix("after reset(6) from 6", x, Due.full(6, 0));
        Due.is("reset(1) from 6", x.reset(1), 6);
        Due.is("undo() of reset(1)", x.undo(), 3);
        Due.is("undo() of reset(6)", x.undo(), 2);
        Due.is("entry(5, 0) after undo()", x.entry(5, 0), 9);
    }

    private static void setEntry() {
        ShiftWorkbench x = Due.bench(Due.full(3, 0));
        Due.is("setEntry(1, 2, 9)", x.setEntry(1, 2, 9), 0);
        Due.is("setEntry(1, 2, 0)", x.setEntry(1, 2, 0), 9);
        Due.is("setEntry(1, 2, 4)", x.setEntry(1, 2, 4), 0);
        Due.is("setEntry(2, 1, 5)", x.setEntry(2, 1, 5), 0);
        Due.is("setEntry(1, 2, 4) again", x.setEntry(1, 2, 4), 4);
        int[][] rows = {{0, 0, 0}, {0, 0, 4}, {0, 5, 0}};
        Due.matrix("after setEntry", x, rows);
        Due.is("undo() of setEntry that changed nothing", x.undo(), 3);
        Due.matrix("after that undo()", x, rows);
        Due.is("undo() of setEntry(2, 1, 5)", x.undo(), 2);
        Due.is("entry(2, 1) after undo()", x.entry(2, 1), 0);
    }

    private static void entry() {
        int[][] rows = {{1, 2, 3}, {4, 5, 6}, {7, 8, 9}};
        Due.matrix("entry", Due.bench(rows), rows);
    }

    private static void essentialStates() {
        Due.is("essential: all", new ShiftWorkbench().essentialStates(), 3);
        Due.is("essential: none", Due.bench(Due.full(6, 0)).essentialStates(), 0);
        Due.is("essential: all of six", Due.bench(Due.full(6, 1)).essentialStates(), 63);
        Due.is("essential: one state without an edge", Due.bench(Due.row(0)).essentialStates(), 0);
        Due.is("essential: one state with an edge", Due.bench(Due.row(1)).essentialStates(), 1);
        // 0 only leads in, 5 only leads out, 1 and 4 bear edges to themselves, 2 and 3 lie between.
        ShiftWorkbench chain = Due.bench(Due.chain(6));
        chain.setEntry(1, 1, 2);
        chain.setEntry(4, 4, 1);
        Due.is("essential: between two cycles", chain.essentialStates(), 30);
        chain.setEntry(4, 4, 0);
        Due.is("essential: a cycle with ways in and out", chain.essentialStates(), 2);
        chain.setEntry(1, 1, 0);
        Due.is("essential: a chain of six", chain.essentialStates(), 0);
        chain.setEntry(5, 0, 1);
        Due.is("essential: a ring of six", chain.essentialStates(), 63);
        // Long paths begin at 0 and end at 2, but no state has both.
        Due.is("essential: a source cycle's sink",
                Due.bench(Due.row(1, 1), Due.row(0, 0)).essentialStates(), 1);
        Due.is("essential: a sink cycle's source",
                Due.bench(Due.row(0, 1), Due.row(0, 1)).essentialStates(), 2);
    }

    /** "arbitrarily long paths": those into the first loop and those out of the last one come to an end. */
    private static void essentialStatesOfAChainWithLoops() {
        for (int set = 0; set < 64; set++) {
            int[][] rows = Due.chain(6);
            for (int state = 0; state < 6; state++) {
                rows[state][state] = set >> state & 1;
            }
            int last = Integer.highestOneBit(set);
            int between = set == 0 ? 0 : 2 * last - Integer.lowestOneBit(set);
            Due.is("essential: a chain with the loops " + set, Due.bench(rows).essentialStates(), between);
        }
    }

    private static void trim() {
        ShiftWorkbench x = Due.bench(Due.chain(6));
        Due.is("trim() of a chain", x.trim(), Due.IMPOSSIBLE);
        Due.is("size() after trim() of a chain", x.size(), 6);
        Due.is("undo() takes the change before that trim()", x.undo(), 3);
        Due.is("entry(4, 5) after that", x.entry(4, 5), 0);
        trimInTheMiddle();
        trimOfAll();
    }

    private static void trimInTheMiddle() {
        int[][] rows = {{0, 1, 1, 1}, {0, 2, 5, 3}, {0, 0, 0, 0}, {0, 4, 6, 7}};
        ShiftWorkbench x = Due.bench(rows);
        Due.is("trim() in the middle", x.trim(), 2);
        Due.matrix("after trim()", x, Due.row(2, 3), Due.row(4, 7));
        Due.is("entry(2, 0) after trim()", x.entry(2, 0), Due.INVALID);
        Due.is("undo() of trim()", x.undo(), 3);
        Due.matrix("after undo() of trim()", x, rows);
    }

    private static void trimOfAll() {
        ShiftWorkbench x = new ShiftWorkbench();
        Due.is("trim() where all are essential", x.trim(), 0);
        Due.matrix("after trim() where all are essential", x, Due.full(2, 1));
        Due.is("undo() of a trim() that changed nothing", x.undo(), 0);
        ShiftWorkbench y = Due.bench(Due.row(0, 1), Due.row(0, 1));
        Due.is("trim() to the last state", y.trim(), 1);
        Due.matrix("after trim() to the last state", y, Due.row(1));
    }

    /** "Returns the number of states that were removed", from none to five, wherever they lie. */
    private static void trimOfEachSet() {
        for (int set = 1; set < 64; set++) {
            int[][] rows = new int[6][6];
            int[][] left = new int[Integer.bitCount(set)][Integer.bitCount(set)];
            int found = 0;
            for (int state = 0; state < 6; state++) {
                if ((set >> state & 1) == 1) {
                    rows[state][state] = state + 4;
                    left[found][found] = state + 4;
                    found++;
                }
            }
            ShiftWorkbench x = Due.bench(rows);
            Due.is("essentialStates() of the loops " + set, x.essentialStates(), set);
            Due.is("trim() to the loops " + set, x.trim(), 6 - found);
            Due.matrix("after trim() to the loops " + set, x, left);
            Due.is("essentialStates() after that", x.essentialStates(), (1 << found) - 1);
            Due.is("trim() again", x.trim(), 0);
        }
    }
}
