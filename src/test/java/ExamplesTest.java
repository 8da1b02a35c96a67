/** The five examples of the document. */
public final class ExamplesTest {

    public static void main(String[] args) {
        goldenMean();
        splitAndMergedAgain();
        notEssential();
        otherNumbers();
        errorsAndUndo();
        Due.end();
    }

    private static void goldenMean() {
        ShiftWorkbench x = new ShiftWorkbench();
        Due.is("1: setEntry(1, 1, 0)", x.setEntry(1, 1, 0), 1);
        Due.is("1: blocks(2)", x.blocks(2), 5);
        Due.is("1: periodicPoints(2)", x.periodicPoints(2), 3);
        Due.is("1: orbits(3)", x.orbits(3), 1);
        Due.is("1: coefficient(1)", x.coefficient(1), -1);
        Due.is("1: coefficient(2)", x.coefficient(2), -1);
        Due.is("1: radiusTenths()", x.radiusTenths(), 16);
    }

    private static void splitAndMergedAgain() {
        ShiftWorkbench x = new ShiftWorkbench();
        Due.is("2: setEntry(1, 1, 0)", x.setEntry(1, 1, 0), 1);
        Due.is("2: setShare(0, 1)", x.setShare(0, 1), 0);
        Due.is("2: outSplit(0)", x.outSplit(0), 3);
        Due.is("2: entry(2, 0)", x.entry(2, 0), 1);
        Due.is("2: entry(0, 2)", x.entry(0, 2), 0);
        Due.is("2: outMerge(0, 2)", x.outMerge(0, 2), 2);
        Due.is("2: size()", x.size(), 2);
    }

    private static void notEssential() {
        ShiftWorkbench x = new ShiftWorkbench();
        Due.is("3: reset(3)", x.reset(3), 2);
        Due.is("3: setEntry(0, 1, 1)", x.setEntry(0, 1, 1), 0);
        Due.is("3: setEntry(1, 0, 1)", x.setEntry(1, 0, 1), 0);
        Due.is("3: setEntry(1, 2, 1)", x.setEntry(1, 2, 1), 0);
        Due.is("3: periodOf(0)", x.periodOf(0), 2);
        Due.is("3: periodOf(2)", x.periodOf(2), -1000004);
        Due.is("3: essentialStates()", x.essentialStates(), 3);
        Due.is("3: trim()", x.trim(), 1);
        Due.is("3: size()", x.size(), 2);
    }

    private static void otherNumbers() {
        ShiftWorkbench x = new ShiftWorkbench();
        Due.is("4: setEntry(0, 0, 4)", x.setEntry(0, 0, 4), 1);
        Due.is("4: setEntry(0, 1, 3)", x.setEntry(0, 1, 3), 1);
        Due.is("4: setEntry(1, 0, 3)", x.setEntry(1, 0, 3), 1);
        Due.is("4: setEntry(1, 1, 4)", x.setEntry(1, 1, 4), 1);
        Due.is("4: determinant()", x.determinant(), 0);
        Due.is("4: factor(1)", x.factor(1), 3);
        Due.is("4: factor(2)", x.factor(2), 0);
        Due.is("4: differences()", x.differences(), 7);
    }

    private static void errorsAndUndo() {
        ShiftWorkbench x = new ShiftWorkbench();
        Due.is("5: entry(2, 0)", x.entry(2, 0), -1000001);
        Due.is("5: outMerge(0, 0)", x.outMerge(0, 0), -1000001);
        Due.is("5: outMerge(0, 1)", x.outMerge(0, 1), 1);
        Due.is("5: entry(0, 0)", x.entry(0, 0), 2);
        Due.is("5: undo()", x.undo(), 0);
        Due.is("5: undo()", x.undo(), -1000002);
    }
}
