import java.util.ArrayDeque;
import java.util.Deque;
import java.util.List;
import java.util.function.Consumer;
import java.util.function.ToIntFunction;

/**
 * Each kind of change, undone as the last, as the fourth and as the fifth from last; what counts as a change and
 * what does not; and what undoing restores.
 */
public final class UndoTest {

    private static final int[][] MIXED = {{2, 2, 0, 1}, {2, 2, 0, 1}, {3, 3, 5, 0}, {0, 0, 0, 0}};

    /** A change, what it answers, and the matrix that it leaves of MIXED, with a share of 1 for state 0 and chain(3) saved. */
    private record Change(String name, ToIntFunction<ShiftWorkbench> call, int answer, int[][] leaves) {
    }

    private static final List<Change> CHANGES = List.of(
            new Change("reset(3)", x -> x.reset(3), 4, Due.full(3, 0)),
            new Change("setEntry(3, 1, 8)", x -> x.setEntry(3, 1, 8), 0,
                    new int[][] {{2, 2, 0, 1}, {2, 2, 0, 1}, {3, 3, 5, 0}, {0, 8, 0, 0}}),
            new Change("trim()", ShiftWorkbench::trim, 1, new int[][] {{2, 2, 0}, {2, 2, 0}, {3, 3, 5}}),
            new Change("outSplit(0)", x -> x.outSplit(0), 5,
                    new int[][] {{1, 2, 0, 1, 1}, {2, 2, 0, 1, 2}, {3, 3, 5, 0, 3}, {0, 0, 0, 0, 0}, {1, 0, 0, 0, 1}}),
            new Change("inSplit(1)", x -> x.inSplit(1), 5,
                    new int[][] {{2, 1, 0, 1, 1}, {2, 2, 0, 1, 0}, {3, 3, 5, 0, 0}, {0, 0, 0, 0, 0}, {2, 2, 0, 1, 0}}),
            new Change("outMerge(0, 1)", x -> x.outMerge(0, 1), 3, new int[][] {{4, 0, 2}, {3, 5, 0}, {0, 0, 0}}),
            new Change("inMerge(1, 0)", x -> x.inMerge(1, 0), 3, new int[][] {{4, 0, 1}, {6, 5, 0}, {0, 0, 0}}),
            new Change("swapSaved()", ShiftWorkbench::swapSaved, 3, Due.chain(3)));

    public static void main(String[] args) {
        for (Change change : CHANGES) {
            for (int before = 0; before <= 5; before++) {
                undoneAsTheLast(change, before);
            }
            undoneAsTheFourthFromLast(change);
            notUndoneAsTheFifthFromLast(change);
        }
        eachPairOfChanges();
        changesThatLeaveTheMatrixAsItIsCount();
        otherCallsDoNotCount();
        undoReturnsWhatIsLeft();
        undoingAndGoingOn();
        sharesAreNotAffected();
        theSavedMatrixIsRestored();
        saveCannotBeUndoneByItself();
        Due.end();
    }

    private static ShiftWorkbench laid() {
        ShiftWorkbench x = Due.bench(Due.chain(3));
        x.save();
        Due.lay(x, MIXED);
        x.setShare(0, 1);
        return forgetful(x);
    }

    /** As it is, but with no change left that can be undone. */
    private static ShiftWorkbench forgetful(ShiftWorkbench x) {
        for (int undo = 0; undo < 4; undo++) {
            x.setEntry(0, 0, x.entry(0, 0));
        }
        for (int left = 3; left >= 0; left--) {
            Due.is("undo() with " + left + " left", x.undo(), left);
        }
        Due.is("undo() with none left", x.undo(), Due.IMPOSSIBLE);
        return x;
    }

    private static void make(ShiftWorkbench x, Change change) {
        Due.is(change.name, change.call.applyAsInt(x), change.answer);
        Due.matrix("after " + change.name, x, change.leaves);
    }

    private static void savedIsAChain(String where, ShiftWorkbench x) {
        x.swapSaved();
        Due.matrix("saved, " + where, x, Due.chain(3));
    }

    private static void undoneAsTheLast(Change change, int before) {
        ShiftWorkbench x = laid();
        for (int value = 1; value <= before; value++) {
            x.setEntry(0, 0, value);
        }
        x.setEntry(0, 0, 2);
        make(x, change);
        String where = change.name + " undone as the last after " + (before + 1) + " others";
        Due.is(where, x.undo(), Math.min(before + 1, 3));
        Due.matrix(where, x, MIXED);
        savedIsAChain(where, x);
    }

    private static void undoneAsTheFourthFromLast(Change change) {
        ShiftWorkbench x = laid();
        x.setEntry(3, 3, 0);
        make(x, change);
        for (int value = 7; value <= 9; value++) {
            x.setEntry(0, 0, value);
        }
        String where = change.name + " as the fourth from last";
        Due.is("undo() before " + where, x.undo(), 3);
        Due.is("undo() before " + where, x.undo(), 2);
        Due.is("undo() before " + where, x.undo(), 1);
        Due.matrix("before " + where, x, change.leaves);
        Due.is("undo() of " + where, x.undo(), 0);
        Due.matrix("without " + where, x, MIXED);
        Due.is("undo() after " + where, x.undo(), Due.IMPOSSIBLE);
        Due.matrix("still without " + where, x, MIXED);
        savedIsAChain(where, x);
    }

    private static void notUndoneAsTheFifthFromLast(Change change) {
        ShiftWorkbench x = laid();
        make(x, change);
        for (int value = 6; value <= 9; value++) {
            x.setEntry(0, 0, value);
        }
        String where = change.name + " as the fifth from last";
        for (int left = 3; left >= 0; left--) {
            Due.is("undo() after " + where, x.undo(), left);
        }
        Due.matrix("with " + where, x, change.leaves);
        Due.is("undo() of " + where, x.undo(), Due.IMPOSSIBLE);
        Due.matrix("still with " + where, x, change.leaves);
        x.swapSaved();
        Due.matrix("saved with " + where, x, change.name.equals("swapSaved()") ? MIXED : Due.chain(3));
    }

    /** The second change need not be possible after the first one: what is refused is no change. */
    private static void eachPairOfChanges() {
        for (Change first : CHANGES) {
            for (Change second : CHANGES) {
                ShiftWorkbench x = laid();
                make(x, first);
                boolean isMade = second.call.applyAsInt(x) >= 0;
                String where = first.name + ", " + second.name;
                if (isMade) {
                    Due.is("undo() of the second of " + where, x.undo(), 1);
                }
                Due.matrix("without the second of " + where, x, first.leaves);
                Due.is("undo() of the first of " + where, x.undo(), 0);
                Due.matrix("without " + where, x, MIXED);
                savedIsAChain("without " + where, x);
            }
        }
    }

    /** "A change that leaves the matrix as it is counts, too." */
    private static void changesThatLeaveTheMatrixAsItIsCount() {
        List<Consumer<ShiftWorkbench>> calls = List.of(
                x -> x.reset(5), x -> x.setEntry(4, 4, 0), x -> x.setEntry(0, 0, 0), ShiftWorkbench::swapSaved);
        for (int call = 0; call < calls.size(); call++) {
            ShiftWorkbench x = Due.bench(Due.full(5, 0));
            x.save();
            forgetful(x);
            calls.get(call).accept(x);
            Due.matrix("after idle change " + call, x, Due.full(5, 0));
            Due.is("undo() of idle change " + call, x.undo(), 0);
            Due.is("undo() after idle change " + call, x.undo(), Due.IMPOSSIBLE);
        }
        ShiftWorkbench full = forgetful(Due.bench(Due.full(6, 1)));
        Due.is("trim() of nothing", full.trim(), 0);
        Due.is("undo() of trim() of nothing", full.undo(), 0);
        // Four idle changes leave no room for the one before them.
        ShiftWorkbench x = new ShiftWorkbench();
        x.setEntry(0, 1, 7);
        for (int idle = 0; idle < 4; idle++) {
            x.trim();
        }
        for (int left = 3; left >= 0; left--) {
            Due.is("undo() of trim() of nothing", x.undo(), left);
        }
        Due.is("undo() after four of them", x.undo(), Due.IMPOSSIBLE);
        Due.is("entry(0, 1) after four of them", x.entry(0, 1), 7);
    }

    /** Neither questions nor shares nor save() are changes; each call here stands between changes that are undone. */
    private static void otherCallsDoNotCount() {
        List<Consumer<ShiftWorkbench>> calls = List.of(
                x -> x.entry(0, 0), ShiftWorkbench::size, ShiftWorkbench::essentialStates, x -> x.paths(0, 1, 8),
                ShiftWorkbench::componentCount, x -> x.componentOf(3), ShiftWorkbench::isIrreducible,
                x -> x.periodOf(0), x -> x.periodOf(3), x -> x.blocks(8), x -> x.periodicPoints(8), x -> x.orbits(8),
                x -> x.coefficient(4), ShiftWorkbench::radiusTenths, ShiftWorkbench::determinant, x -> x.factor(4),
                x -> x.setShare(0, 9), ShiftWorkbench::coreSize, ShiftWorkbench::save, ShiftWorkbench::differences);
        for (int call = 0; call < calls.size(); call++) {
            for (int changes = 0; changes <= 5; changes++) {
                ShiftWorkbench x = laid();
                for (int change = 0; change < changes; change++) {
                    x.setEntry(0, 0, 9 - change);
                    calls.get(call).accept(x);
                }
                calls.get(call).accept(x);
                String where = "undo() among calls " + call + " that do not count";
                for (int left = Math.min(changes, 4) - 1; left >= 0; left--) {
                    Due.is(where, x.undo(), left);
                    calls.get(call).accept(x);
                }
                Due.is(where, x.undo(), Due.IMPOSSIBLE);
                Due.is("entry(0, 0) after " + where, x.entry(0, 0), changes == 5 ? 9 : 2);
            }
        }
    }

    /** "Returns the number of changes that can still be undone", which is never above three. */
    private static void undoReturnsWhatIsLeft() {
        for (int changes = 0; changes <= 12; changes++) {
            ShiftWorkbench x = new ShiftWorkbench();
            for (int change = 1; change <= changes; change++) {
                x.reset(1 + change % 6);
                x.save();
            }
            int size = x.size();
            for (int left = Math.min(changes, 4) - 1; left >= 0; left--) {
                Due.is("undo() of " + changes + " changes", x.undo(), left);
                int undone = Math.min(changes, 4) - left;
                size = changes == undone ? 2 : 1 + (changes - undone) % 6;
                Due.is("size() after that", x.size(), size);
            }
            Due.is("undo() of " + changes + " changes and one more", x.undo(), Due.IMPOSSIBLE);
            Due.is("undo() of " + changes + " changes and two more", x.undo(), Due.IMPOSSIBLE);
            Due.is("size() after all", x.size(), size);
        }
    }

    /** "Undoes the latest change that has not been undone": so many changes, so many undos, so many changes, then all. */
    private static void undoingAndGoingOn() {
        for (int first = 0; first <= 6; first++) {
            for (int undos = 0; undos <= 5; undos++) {
                for (int second = 0; second <= 6; second++) {
                    undoneInTurn(first, undos, second);
                }
            }
        }
    }

    private static void undoneInTurn(int first, int undos, int second) {
        ShiftWorkbench x = new ShiftWorkbench();
        Deque<Integer> values = new ArrayDeque<>(List.of(1));
        String run = first + " changes, " + undos + " undos, " + second + " changes";
        enter(x, values, first, 1);
        undo(run, x, values, undos);
        enter(x, values, second, 2);
        undo(run, x, values, 5);
    }

    /** Each value differs from the one before it; the deque holds the last four and the one that they came after. */
    private static void enter(ShiftWorkbench x, Deque<Integer> values, int changes, int step) {
        for (int change = 0; change < changes; change++) {
            int value = (values.getLast() + step) % 10;
            x.setEntry(1, 0, value);
            values.addLast(value);
            if (values.size() > 5) {
                values.removeFirst();
            }
        }
    }

    private static void undo(String run, ShiftWorkbench x, Deque<Integer> values, int undos) {
        for (int undo = 0; undo < undos; undo++) {
            int due = values.size() - 2;
            Due.is("undo(), " + run, x.undo(), due < 0 ? Due.IMPOSSIBLE : due);
            if (due >= 0) {
                values.removeLast();
            }
            Due.is("entry(1, 0), " + run, x.entry(1, 0), values.getLast());
        }
    }

    /** "the shares are not affected", whether they were set before the change or after it. */
    private static void sharesAreNotAffected() {
        for (Change change : CHANGES) {
            ShiftWorkbench x = laid();
            Due.share(x, 1, 0, 0, 0, 7, 9);
            make(x, change);
            for (int state = 0; state < 6; state++) {
                Due.is("setShare() after " + change.name, x.setShare(state, 6 - state), state == 4 ? 7 : state == 5 ? 9
                        : state == 0 ? 1 : 0);
            }
            x.undo();
            for (int state = 0; state < 6; state++) {
                Due.is("setShare() after undo() of " + change.name, x.setShare(state, 0), 6 - state);
            }
        }
    }

    /** "Undoing restores the matrix and the saved matrix", at each of the four depths. */
    private static void theSavedMatrixIsRestored() {
        for (int undos = 0; undos <= 4; undos++) {
            ShiftWorkbench x = new ShiftWorkbench();
            for (int value = 2; value <= 6; value++) {
                x.setEntry(0, 0, value);
                x.save();
            }
            for (int undo = 0; undo < undos; undo++) {
                x.undo();
            }
            // The matrix is as after a change and its save(), and what is saved is from then, too.
            Due.is("differences() after " + undos + " undos", x.differences(), 0);
            Due.is("entry(0, 0) after " + undos + " undos", x.entry(0, 0), 6 - undos);
            x.swapSaved();
            Due.is("saved entry(0, 0) after " + undos + " undos", x.entry(0, 0), 6 - undos);
        }
        for (int undos = 0; undos <= 4; undos++) {
            ShiftWorkbench x = Due.bench(Due.ring(6));
            for (int swap = 0; swap < 5; swap++) {
                x.swapSaved();
            }
            for (int undo = 0; undo < undos; undo++) {
                Due.is("undo() of swaps", x.undo(), 3 - undo);
            }
            boolean isSwapped = undos % 2 == 0;
            Due.matrix("after " + undos + " undos of swaps", x, isSwapped ? Due.full(2, 1) : Due.ring(6));
            x.swapSaved();
            Due.matrix("saved after " + undos + " undos of swaps", x, isSwapped ? Due.ring(6) : Due.full(2, 1));
        }
    }

    /** "cannot be undone by itself": what is saved stays when a change before save() cannot be undone any more. */
    private static void saveCannotBeUndoneByItself() {
        ShiftWorkbench x = new ShiftWorkbench();
        x.reset(4);
        forgetful(x);
        Due.is("save()", x.save(), 4);
        Due.is("undo() after save() alone", x.undo(), Due.IMPOSSIBLE);
        x.swapSaved();
        Due.matrix("saved after undo() of nothing", x, Due.full(4, 0));
        ShiftWorkbench y = new ShiftWorkbench();
        y.reset(5);
        Due.is("save()", y.save(), 5);
        Due.is("undo() of the change before save()", y.undo(), 0);
        y.swapSaved();
        Due.matrix("saved before that change", y, Due.full(2, 1));
    }
}
