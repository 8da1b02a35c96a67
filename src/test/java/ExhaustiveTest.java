/** Every number of every small matrix: 2 states with entries up to 4, and 3 states with entries up to 1. */
public final class ExhaustiveTest {

    public static void main(String[] args) {
        for (int number = 0; number < 5 * 5 * 5 * 5; number++) {
            compareAll(2, 5, number);
        }
        for (int number = 0; number < 1 << 9; number++) {
            compareAll(3, 2, number);
        }
        for (int number = 0; number < 10; number++) {
            compareAll(1, 10, number);
        }
        Due.end();
    }

    private static void compareAll(int states, int base, int number) {
        ShiftWorkbench bench = new ShiftWorkbench();
        Model model = new Model();
        Due.is("reset", bench.reset(states), model.reset(states));
        int rest = number;
        for (int place = 0; place < states * states; place++) {
            int row = place / states;
            int column = place % states;
            Due.is("setEntry", bench.setEntry(row, column, rest % base), model.setEntry(row, column, rest % base));
            rest /= base;
        }
        String which = "matrix " + number + " of " + states + " states to base " + base + ": ";
        compareNumbers(which, bench, model);
        compareStates(which, bench, model);
        compareLengths(which, bench, model);
        compareMerges(which, bench, model);
    }

    private static void compareNumbers(String which, ShiftWorkbench bench, Model model) {
        Due.is(which + "essentialStates()", bench.essentialStates(), model.essentialStates());
        Due.is(which + "componentCount()", bench.componentCount(), model.componentCount());
        Due.is(which + "isIrreducible()", bench.isIrreducible(), model.isIrreducible());
        Due.is(which + "radiusTenths()", bench.radiusTenths(), model.radiusTenths());
        Due.is(which + "determinant()", bench.determinant(), model.determinant());
        Due.is(which + "coreSize()", bench.coreSize(), model.coreSize());
        Due.is(which + "differences()", bench.differences(), model.differences());
    }

    private static void compareStates(String which, ShiftWorkbench bench, Model model) {
        for (int state = 0; state < model.size(); state++) {
            Due.is(which + "componentOf(" + state + ")", bench.componentOf(state), model.componentOf(state));
            Due.is(which + "periodOf(" + state + ")", bench.periodOf(state), model.periodOf(state));
            for (int to = 0; to < model.size(); to++) {
                for (int length = 0; length <= 8; length += 4) {
                    Due.is(which + "paths(" + state + ", " + to + ", " + length + ")",
                            bench.paths(state, to, length), model.paths(state, to, length));
                }
            }
        }
    }

    private static void compareLengths(String which, ShiftWorkbench bench, Model model) {
        for (int n = 0; n <= 9; n++) {
            Due.is(which + "blocks(" + n + ")", bench.blocks(n), model.blocks(n));
            Due.is(which + "periodicPoints(" + n + ")", bench.periodicPoints(n), model.periodicPoints(n));
            Due.is(which + "orbits(" + n + ")", bench.orbits(n), model.orbits(n));
            Due.is(which + "coefficient(" + n + ")", bench.coefficient(n), model.coefficient(n));
            Due.is(which + "factor(" + n + ")", bench.factor(n), model.factor(n));
        }
    }

    private static void compareMerges(String which, ShiftWorkbench bench, Model model) {
        for (int first = 0; first < 3; first++) {
            for (int second = 0; second < 3; second++) {
                Due.is(which + "outMerge(" + first + ", " + second + ")",
                        bench.outMerge(first, second), model.outMerge(first, second));
                Due.is(which + "entry(0, 0)", bench.entry(0, 0), model.entry(0, 0));
                Due.is(which + "undo()", bench.undo(), model.undo());
            }
        }
        Due.is(which + "trim()", bench.trim(), model.trim());
        for (int place = 0; place < 9; place++) {
            Due.is(which + "trimmed entry " + place, bench.entry(place / 3, place % 3), model.entry(place / 3, place % 3));
        }
    }
}
