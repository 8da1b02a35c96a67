/** Promises 26 to 28, and what undo() does to the saved matrix. */
public final class ComparingTest {

    public static void main(String[] args) {
        save();
        saveIsUndoneWithTheChangeBefore();
        swapSaved();
        swapOfOtherSizes();
        sizesThatSaveAndSwapReturn();
        differences();
        differencesOfOneKind();
        differencesAtTheEnds();
        differencesOfOneStateAndMore();
        Due.end();
    }

    private static void save() {
        ShiftWorkbench x = new ShiftWorkbench();
        Due.is("save() at first", x.save(), 2);
        Due.is("undo() after save() alone", x.undo(), Due.IMPOSSIBLE);
        x.reset(3);
        x.setEntry(1, 1, 5);
        Due.is("differences() before save()", x.differences(), 7);
        Due.is("save() of three", x.save(), 3);
        Due.is("differences() after save()", x.differences(), 0);
        x.setEntry(1, 1, 6);
        Due.is("swapSaved()", x.swapSaved(), 3);
        Due.is("entry(1, 1) saved before it was 6", x.entry(1, 1), 5);
    }

    /** Undoing restores the saved matrix, too: it is the one from before the change that is undone. */
    private static void saveIsUndoneWithTheChangeBefore() {
        ShiftWorkbench x = new ShiftWorkbench();
        x.setEntry(0, 0, 2);
        x.save();
        x.setEntry(0, 0, 3);
        Due.is("undo() of the change after save()", x.undo(), 1);
        Due.is("entry(0, 0)", x.entry(0, 0), 2);
        Due.is("differences() to what was saved", x.differences(), 0);
        Due.is("undo() of the change before save()", x.undo(), 0);
        Due.is("entry(0, 0)", x.entry(0, 0), 1);
        Due.is("differences() to what was saved before", x.differences(), 0);
        x.swapSaved();
        Due.is("entry(0, 0) of what was saved before", x.entry(0, 0), 1);
    }

    private static void swapSaved() {
        ShiftWorkbench x = new ShiftWorkbench();
        x.setEntry(1, 0, 4);
        Due.is("swapSaved()", x.swapSaved(), 2);
        Due.matrix("after swapSaved()", x, Due.full(2, 1));
        Due.is("swapSaved() back", x.swapSaved(), 2);
        Due.matrix("after swapSaved() back", x, Due.row(1, 1), Due.row(4, 1));
        Due.is("undo() of the second swap", x.undo(), 2);
        Due.matrix("after undo() of the second swap", x, Due.full(2, 1));
        Due.is("undo() of the first swap", x.undo(), 1);
        Due.matrix("after undo() of the first swap", x, Due.row(1, 1), Due.row(4, 1));
        x.swapSaved();
        Due.matrix("the saved one after undo()", x, Due.full(2, 1));
    }

    private static void swapOfOtherSizes() {
        ShiftWorkbench x = new ShiftWorkbench();
        x.reset(5);
        x.setEntry(4, 3, 8);
        Due.is("swapSaved() to two states", x.swapSaved(), 2);
        Due.is("entry(4, 3) of two states", x.entry(4, 3), Due.INVALID);
        Due.is("swapSaved() to five states", x.swapSaved(), 5);
        Due.is("entry(4, 3) of five states", x.entry(4, 3), 8);
        Due.is("entry(1, 1) of five states", x.entry(1, 1), 0);
    }

    /** "Returns N", "Returns the new N", from one to six, and that nothing of a greater matrix stays. */
    private static void sizesThatSaveAndSwapReturn() {
        for (int first = 1; first <= 6; first++) {
            for (int second = 1; second <= 6; second++) {
                ShiftWorkbench x = Due.bench(Due.full(first, 9));
                Due.is("save() of " + first, x.save(), first);
                Due.lay(x, Due.ring(second));
                Due.is("swapSaved() of " + second + " and " + first, x.swapSaved(), first);
                Due.matrix("swapped", x, Due.full(first, 9));
                Due.is("swapSaved() back", x.swapSaved(), second);
                Due.matrix("swapped back", x, Due.ring(second));
                Due.is("save() of " + second, x.save(), second);
                Due.is("swapSaved() of the same", x.swapSaved(), second);
                Due.matrix("swapped with the same", x, Due.ring(second));
            }
        }
    }

    private static int differ(int[][] first, int[][] second) {
        ShiftWorkbench x = Due.bench(first);
        x.save();
        Due.lay(x, second);
        int mask = x.differences();
        x.swapSaved();
        Due.is("differences() the other way", x.differences(), mask);
        return mask;
    }

    private static void differences() {
        int[][] golden = {{1, 1}, {1, 0}};
        Due.is("differences() to itself", differ(golden, golden), 0);
        Due.is("differences() to the other order", differ(golden, new int[][] {{0, 1}, {1, 1}}), 0);
        Due.is("differences() to a split one",
                differ(golden, new int[][] {{0, 1, 0}, {1, 0, 1}, {1, 0, 1}}), 0);
        Due.is("differences() to ones", differ(golden, Due.full(2, 1)), 5);
        Due.is("differences() of 4 3 3 4 and 6 1 1 6",
                differ(new int[][] {{4, 3}, {3, 4}}, new int[][] {{6, 1}, {1, 6}}), 3);
        Due.is("differences() of 4 3 3 4 and ones", differ(new int[][] {{4, 3}, {3, 4}}, Due.full(2, 1)), 7);
    }

    private static void differencesOfOneKind() {
        // Both have 1 - 6t + 5t^2; I - A is -[[0, 4], [0, 4]] and -[[2, 2], [2, 2]].
        Due.is("differences() in the factors alone",
                differ(new int[][] {{1, 4}, {0, 5}}, new int[][] {{3, 2}, {2, 3}}), 2);
        // One ring of two and two of them: the factors other than 1 are 0 alone, and 0 twice.
        Due.is("differences() in the number of factors 0",
                differ(new int[][] {{0, 1}, {1, 0}}, new int[][] {{0, 1, 0, 0}, {1, 0, 0, 0}, {0, 0, 0, 1}, {0, 0, 1, 0}}),
                7);
        // Equal rows alone: an in-merge would give the other matrix, but the core is made by out-merges.
        Due.is("differences() in the core alone",
                differ(new int[][] {{3}}, new int[][] {{1, 2}, {1, 2}}), 4);
        // 1 - t - t^2 and 1 - 3t + t^2; neither has a factor other than 1.
        Due.is("differences() in the polynomial alone",
                differ(new int[][] {{1, 1}, {1, 0}}, new int[][] {{2, 1}, {1, 1}}), 1);
        // Both have (1 - 3t)^2; the factors are 2, 2 and 1, 2, 2.
        Due.is("differences() with a factor 1 more",
                differ(new int[][] {{3, 0}, {0, 3}}, new int[][] {{0, 0, 0}, {0, 3, 0}, {1, 0, 3}}), 4);
    }

    /** Six states whose polynomials differ in the last coefficient alone, or whose factors in the first one alone. */
    private static void differencesAtTheEnds() {
        int[][] ring = Due.ring(6);
        ring[0][1] = 2;
        Due.is("differences() of a ring of six and a chain", differ(ring, Due.chain(6)), 1);
        int[][] sevensAndThree = Due.diagonal(6, 7);
        sevensAndThree[4][4] = 3;
        Due.is("differences() of factors 6 and of 2 and 6", differ(Due.diagonal(6, 7), sevensAndThree), 3);
    }

    private static void differencesOfOneStateAndMore() {
        for (int states = 1; states <= 6; states++) {
            String one = "differences() of one state and " + states;
            int otherCore = states == 1 ? 0 : 4;
            Due.is(one + " without edges", differ(Due.full(1, 0), Due.full(states, 0)), 0);
            Due.is(one + " in a chain", differ(Due.full(1, 0), Due.chain(states)), otherCore);
            Due.is(one + " with a loop each", differ(Due.full(1, 1), Due.diagonal(states, 1)), states == 1 ? 0 : 7);
            Due.is(one + " with two loops each", differ(Due.full(1, 2), Due.diagonal(states, 2)), states == 1 ? 0 : 5);
            Due.is(one + " in a ring", differ(Due.full(1, 1), Due.ring(states)), states == 1 ? 0 : 5);
            Due.is(one + " of nines", differ(Due.full(1, 9), Due.full(states, 9)), states == 1 ? 0 : 3);
        }
    }
}
