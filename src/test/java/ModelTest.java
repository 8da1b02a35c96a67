/** Long runs of calls, the same at each start, whose every answer must be the model's. */
public final class ModelTest {

    private static final int RUNS = 400;
    private static final int CALLS = 512;

    private final ShiftWorkbench bench = new ShiftWorkbench();
    private final Model model = new Model();
    private final StringBuilder told = new StringBuilder();
    private final int run;
    private final int greatest;
    private final int density;
    private long seed;
    private int calls = 0;

    private ModelTest(int run) {
        this.run = run;
        this.seed = 1000003L * run + 17;
        this.greatest = new int[] {1, 2, 3, 9}[run % 4];
        this.density = new int[] {20, 35, 60, 100}[run / 4 % 4];
    }

    public static void main(String[] args) {
        for (int run = 0; run < RUNS; run++) {
            new ModelTest(run).go();
        }
        Due.end();
    }

    private void go() {
        askAll();
        while (calls < CALLS) {
            switch (below(14)) {
                case 0 -> layMatrix();
                case 12 -> layNearIdentity();
                case 13 -> layInClasses();
                case 1 -> layEqualLines();
                case 2 -> shareAndSplit();
                case 3, 4 -> merge();
                case 5 -> askAll();
                case 6 -> readMatrix();
                case 7 -> undoSome();
                case 8 -> compare();
                case 9 -> wrongArguments();
                default -> anyChange();
            }
        }
    }

    private int below(int bound) {
        seed = seed * 6364136223846793005L + 1442695040888963407L;
        return (int) ((seed >>> 33) % bound);
    }

    private int state() {
        return below(model.size());
    }

    private int value() {
        return below(100) < density ? 1 + below(greatest) : 0;
    }

    private boolean left() {
        return calls++ < CALLS;
    }

    private void due(String call, long got, long want) {
        told.append(call).append("; ");
        if (got != want) {
            Due.is("run " + run + ": " + told, got, want);
        }
    }

    private void reset(int states) {
        if (left()) {
            due("reset(" + states + ")", bench.reset(states), model.reset(states));
        }
    }

    private void setEntry(int row, int column, int value) {
        if (left()) {
            due("setEntry(" + row + ", " + column + ", " + value + ")",
                    bench.setEntry(row, column, value), model.setEntry(row, column, value));
        }
    }

    private void entry(int row, int column) {
        if (left()) {
            due("entry(" + row + ", " + column + ")", bench.entry(row, column), model.entry(row, column));
        }
    }

    private void setShare(int state, int share) {
        if (left()) {
            due("setShare(" + state + ", " + share + ")", bench.setShare(state, share), model.setShare(state, share));
        }
    }

    private void ask(int what, int first, int second, int third) {
        if (!left()) {
            return;
        }
        switch (what) {
            case 0 -> due("size()", bench.size(), model.size());
            case 1 -> due("essentialStates()", bench.essentialStates(), model.essentialStates());
            case 2 -> due("paths(" + first + ", " + second + ", " + third + ")",
                    bench.paths(first, second, third), model.paths(first, second, third));
            case 3 -> due("componentCount()", bench.componentCount(), model.componentCount());
            case 4 -> due("componentOf(" + first + ")", bench.componentOf(first), model.componentOf(first));
            case 5 -> due("isIrreducible()", bench.isIrreducible(), model.isIrreducible());
            case 6 -> due("periodOf(" + first + ")", bench.periodOf(first), model.periodOf(first));
            case 7 -> due("blocks(" + third + ")", bench.blocks(third), model.blocks(third));
            case 8 -> due("periodicPoints(" + third + ")", bench.periodicPoints(third), model.periodicPoints(third));
            case 9 -> due("orbits(" + third + ")", bench.orbits(third), model.orbits(third));
            case 10 -> due("coefficient(" + third + ")", bench.coefficient(third), model.coefficient(third));
            case 11 -> due("radiusTenths()", bench.radiusTenths(), model.radiusTenths());
            case 12 -> due("determinant()", bench.determinant(), model.determinant());
            case 13 -> due("factor(" + third + ")", bench.factor(third), model.factor(third));
            case 14 -> due("coreSize()", bench.coreSize(), model.coreSize());
            default -> due("differences()", bench.differences(), model.differences());
        }
    }

    private void change(int what, int first, int second) {
        if (!left()) {
            return;
        }
        String both = "(" + first + ", " + second + ")";
        switch (what) {
            case 0 -> due("trim()", bench.trim(), model.trim());
            case 1 -> due("outSplit(" + first + ")", bench.outSplit(first), model.outSplit(first));
            case 2 -> due("inSplit(" + first + ")", bench.inSplit(first), model.inSplit(first));
            case 3 -> due("outMerge" + both, bench.outMerge(first, second), model.outMerge(first, second));
            case 4 -> due("inMerge" + both, bench.inMerge(first, second), model.inMerge(first, second));
            case 5 -> due("save()", bench.save(), model.save());
            case 6 -> due("swapSaved()", bench.swapSaved(), model.swapSaved());
            default -> due("undo()", bench.undo(), model.undo());
        }
    }

    private void layMatrix() {
        int states = 1 + below(6);
        reset(states);
        for (int row = 0; row < states; row++) {
            for (int column = 0; column < states; column++) {
                int value = value();
                if (value != 0) {
                    setEntry(row, column, value);
                }
            }
        }
    }

    /** I - A is then divisible as a whole, so that the factors of the group are others than 1. */
    private void layNearIdentity() {
        int states = 1 + below(4);
        int divisor = 2 + below(3);
        reset(states);
        for (int row = 0; row < states; row++) {
            for (int column = 0; column < states; column++) {
                int times = below(8 / divisor + 1);
                setEntry(row, column, divisor * times + (row == column ? 1 : 0));
            }
        }
        for (int k = 1; k <= states; k++) {
            ask(13, 0, 0, k);
        }
        ask(15, 0, 0, 0);
    }

    /** Edges lead from each class of states to the next one alone, so that the periods are others than 1. */
    private void layInClasses() {
        int states = 2 + below(5);
        int classes = 2 + below(states - 1);
        int turn = below(states);
        reset(states);
        for (int row = 0; row < states; row++) {
            for (int column = 0; column < states; column++) {
                boolean isNext = (column + turn) % states % classes == ((row + turn) % states + 1) % classes;
                if (isNext && below(5) != 0) {
                    setEntry(row, column, 1 + below(greatest));
                }
            }
        }
        for (int state = 0; state < states; state++) {
            ask(6, state, 0, 0);
            ask(4, state, 0, 0);
        }
        ask(11, 0, 0, 0);
    }

    private void layEqualLines() {
        boolean rows = below(2) == 0;
        int from = state();
        int to = state();
        for (int other = 0; other < model.size(); other++) {
            if (rows) {
                setEntry(to, other, model.entry(from, other));
            } else {
                setEntry(other, to, model.entry(other, from));
            }
        }
        change(rows ? 4 : 3, from, to);
    }

    private void shareAndSplit() {
        boolean out = below(2) == 0;
        int split = state();
        for (int other = 0; other < model.size(); other++) {
            int entry = out ? model.entry(split, other) : model.entry(other, split);
            setShare(other, below(40) == 0 ? below(10) : below(entry + 1));
        }
        change(out ? 1 : 2, split, 0);
        readMatrix();
    }

    private void merge() {
        change(3 + below(2), state(), state());
        change(3 + below(2), state(), state());
    }

    private void askAll() {
        for (int what = 0; what <= 15; what++) {
            ask(what, state(), state(), what == 13 ? below(model.size() + 1) : below(10));
        }
    }

    private void readMatrix() {
        ask(0, 0, 0, 0);
        for (int row = 0; row < model.size(); row++) {
            for (int column = 0; column < model.size(); column++) {
                entry(row, column);
            }
        }
    }

    private void undoSome() {
        for (int times = below(6); times >= 0; times--) {
            change(7, 0, 0);
        }
        readMatrix();
    }

    private void compare() {
        change(below(3) == 0 ? 6 : 5, 0, 0);
        anyChange();
        ask(15, 0, 0, 0);
    }

    private void anyChange() {
        if (below(2) == 0) {
            setEntry(state(), state(), value());
        } else {
            change(below(8), state(), state());
        }
    }

    private void wrongArguments() {
        int[] numbers = {-1, 6, 9, 10, 32, Integer.MIN_VALUE, Integer.MAX_VALUE, model.size(), 0, 1};
        int first = numbers[below(10)];
        int second = numbers[below(10)];
        int third = numbers[below(10)];
        reset(numbers[below(7)]);
        setEntry(first, second, third);
        entry(first, second);
        setShare(first, third);
        ask(below(16), first, second, third);
        ask(new int[] {2, 4, 6, 7, 8, 9, 10, 13}[below(8)], first, second, third);
        change(1 + below(4), first, second);
    }
}
