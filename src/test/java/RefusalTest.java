import java.util.List;
import java.util.function.Consumer;
import java.util.function.ToLongFunction;

/**
 * Each error of each call, each pair of errors that may apply to one call, and that a refused call changes nothing:
 * neither the matrix nor the saved one nor a share nor what can be undone.
 */
public final class RefusalTest {

    private static final int[][] MIXED = {{3, 1, 0}, {2, 4, 5}, {6, 0, 7}};
    private static final int[] NO_SHARES = {0, 0, 0, 0, 0, 0};
    private static final int[] ALL_NINE = {9, 9, 9, 9, 9, 9};
    private static final int[] SOME_SHARES = {1, 2, 3, 4, 5, 6};

    public static void main(String[] args) {
        situationsDiffer();
        wrongNumbersInTheMatrix();
        wrongNumbersInTheGraph();
        wrongNumbersOfTheShift();
        wrongShares();
        wrongStatesInSplits();
        wrongStatesInMerges();
        shareAboveTheEntry();
        sharesUpToTheEntry();
        aSeventhState();
        columnsThatDiffer();
        rowsThatDiffer();
        entriesAboveNine();
        trimWithoutEssentialStates();
        periodThatDoesNotExist();
        undoWithoutChanges();
        invalidRatherThanNotPossible();
        invalidRatherThanLimit();
        invalidRatherThanNotFound();
        notPossibleRatherThanLimit();
        Due.end();
    }

    /** The same matrix and shares, with other saved matrices and with other numbers of changes that can be undone. */
    private static List<Consumer<ShiftWorkbench>> situations(int[][] rows, int[] shares) {
        Consumer<ShiftWorkbench> laid = x -> {
            Due.lay(x, rows);
            Due.share(x, shares);
        };
        Consumer<ShiftWorkbench> withAnotherSaved = x -> {
            Due.lay(x, new int[][] {{0, 7, 0}, {0, 0, 2}, {1, 0, 0}});
            x.save();
            laid.accept(x);
        };
        Consumer<ShiftWorkbench> swapped = x -> {
            laid.accept(x);
            x.save();
            Due.lay(x, Due.diagonal(5, 3));
            x.swapSaved();
        };
        return List.of(laid, withAnotherSaved, swapped,
                laid.andThen(x -> keepChanges(x, 1)), withAnotherSaved.andThen(x -> keepChanges(x, 3)),
                laid.andThen(x -> keepChanges(x, 0)));
    }

    /** Leaves the matrix as it is, and so many changes that can be undone. */
    private static void keepChanges(ShiftWorkbench x, int count) {
        for (int change = 0; change < 4; change++) {
            x.setEntry(0, 0, x.entry(0, 0));
        }
        for (int undo = count; undo < 4; undo++) {
            x.undo();
        }
    }

    private static void situationsDiffer() {
        List<Consumer<ShiftWorkbench>> all = situations(MIXED, ALL_NINE);
        long different = all.stream().map(Seen::after).distinct().count();
        Due.is("situations that can be told apart", different, all.size());
        for (Consumer<ShiftWorkbench> situation : all) {
            ShiftWorkbench x = new ShiftWorkbench();
            situation.accept(x);
            Due.matrix("in every situation", x, MIXED);
        }
    }

    private static void refused(int error, int[][] rows, int[] shares, String name, ToLongFunction<ShiftWorkbench> call) {
        int number = 0;
        for (Consumer<ShiftWorkbench> situation : situations(rows, shares)) {
            String which = name + " in situation " + number++;
            ShiftWorkbench x = new ShiftWorkbench();
            situation.accept(x);
            Due.is(which, call.applyAsLong(x), error);
            Due.is(which + " a second time", call.applyAsLong(x), error);
            Due.same("nothing after " + which, Seen.after(situation.andThen(call::applyAsLong)), Seen.after(situation));
        }
    }

    private static void invalid(int[][] rows, String name, ToLongFunction<ShiftWorkbench> call) {
        refused(Due.INVALID, rows, NO_SHARES, name, call);
        refused(Due.INVALID, rows, SOME_SHARES, name + " with shares", call);
    }

    private static void done(int want, int[][] rows, int[] shares, String name, ToLongFunction<ShiftWorkbench> call) {
        ShiftWorkbench x = Due.bench(rows);
        Due.share(x, shares);
        Due.is(name, call.applyAsLong(x), want);
    }

    // ---- INVALID_ARGUMENT

    private static void wrongNumbersInTheMatrix() {
        for (int wrong : Due.outside(1, 6)) {
            invalid(MIXED, "reset(" + wrong + ")", x -> x.reset(wrong));
        }
        for (int wrong : Due.outside(0, 2)) {
            invalid(MIXED, "setEntry(" + wrong + ", 0, 1)", x -> x.setEntry(wrong, 0, 1));
            invalid(MIXED, "setEntry(0, " + wrong + ", 1)", x -> x.setEntry(0, wrong, 1));
            invalid(MIXED, "entry(" + wrong + ", 0)", x -> x.entry(wrong, 0));
            invalid(MIXED, "entry(0, " + wrong + ")", x -> x.entry(0, wrong));
        }
        for (int wrong : Due.outside(0, 9)) {
            invalid(MIXED, "setEntry(0, 0, " + wrong + ")", x -> x.setEntry(0, 0, wrong));
            invalid(MIXED, "setEntry(2, 1, " + wrong + ")", x -> x.setEntry(2, 1, wrong));
        }
        invalid(MIXED, "setEntry(3, -1, 10)", x -> x.setEntry(3, -1, 10));
    }

    private static void wrongNumbersInTheGraph() {
        for (int wrong : Due.outside(0, 2)) {
            invalid(MIXED, "paths(" + wrong + ", 0, 1)", x -> x.paths(wrong, 0, 1));
            invalid(MIXED, "paths(0, " + wrong + ", 1)", x -> x.paths(0, wrong, 1));
            invalid(MIXED, "componentOf(" + wrong + ")", x -> x.componentOf(wrong));
            invalid(MIXED, "periodOf(" + wrong + ")", x -> x.periodOf(wrong));
        }
        for (int wrong : Due.outside(0, 8)) {
            invalid(MIXED, "paths(0, 1, " + wrong + ")", x -> x.paths(0, 1, wrong));
        }
    }

    private static void wrongNumbersOfTheShift() {
        for (int wrong : Due.outside(1, 8)) {
            invalid(MIXED, "blocks(" + wrong + ")", x -> x.blocks(wrong));
            invalid(MIXED, "periodicPoints(" + wrong + ")", x -> x.periodicPoints(wrong));
            invalid(MIXED, "orbits(" + wrong + ")", x -> x.orbits(wrong));
        }
        for (int wrong : Due.outside(0, 6)) {
            invalid(MIXED, "coefficient(" + wrong + ")", x -> x.coefficient(wrong));
        }
        for (int wrong : Due.outside(1, 3)) {
            invalid(MIXED, "factor(" + wrong + ")", x -> x.factor(wrong));
        }
    }

    private static void wrongShares() {
        for (int wrong : Due.outside(0, 5)) {
            invalid(MIXED, "setShare(" + wrong + ", 1)", x -> x.setShare(wrong, 1));
        }
        for (int wrong : Due.outside(0, 9)) {
            invalid(MIXED, "setShare(0, " + wrong + ")", x -> x.setShare(0, wrong));
            invalid(MIXED, "setShare(5, " + wrong + ")", x -> x.setShare(5, wrong));
        }
        invalid(MIXED, "setShare(6, 10)", x -> x.setShare(6, 10));
    }

    private static void wrongStatesInSplits() {
        for (int wrong : Due.outside(0, 2)) {
            invalid(MIXED, "outSplit(" + wrong + ")", x -> x.outSplit(wrong));
            invalid(MIXED, "inSplit(" + wrong + ")", x -> x.inSplit(wrong));
        }
    }

    private static void wrongStatesInMerges() {
        int[][] equal = Due.full(3, 2);
        for (int wrong : Due.outside(0, 2)) {
            invalid(equal, "outMerge(" + wrong + ", 0)", x -> x.outMerge(wrong, 0));
            invalid(equal, "outMerge(0, " + wrong + ")", x -> x.outMerge(0, wrong));
            invalid(equal, "outMerge(" + wrong + ", " + wrong + ")", x -> x.outMerge(wrong, wrong));
            invalid(equal, "inMerge(" + wrong + ", 0)", x -> x.inMerge(wrong, 0));
            invalid(equal, "inMerge(0, " + wrong + ")", x -> x.inMerge(0, wrong));
            invalid(equal, "inMerge(" + wrong + ", " + wrong + ")", x -> x.inMerge(wrong, wrong));
        }
        for (int state = 0; state < 3; state++) {
            int both = state;
            invalid(equal, "outMerge(" + both + ", " + both + ")", x -> x.outMerge(both, both));
            invalid(equal, "inMerge(" + both + ", " + both + ")", x -> x.inMerge(both, both));
        }
    }

    // ---- NOT_POSSIBLE

    /** "NOT_POSSIBLE if a share of an existing state j is greater than the entry" by one, and at one j alone. */
    private static void shareAboveTheEntry() {
        for (int state = 0; state < 3; state++) {
            int split = state;
            for (int other = 0; other < 3; other++) {
                int[] ofRow = MIXED[split].clone();
                ofRow[other]++;
                refused(Due.IMPOSSIBLE, MIXED, ofRow, "outSplit(" + split + "), one too much for " + other,
                        x -> x.outSplit(split));
                int[] ofColumn = {MIXED[0][split], MIXED[1][split], MIXED[2][split]};
                ofColumn[other]++;
                refused(Due.IMPOSSIBLE, MIXED, ofColumn, "inSplit(" + split + "), one too much for " + other,
                        x -> x.inSplit(split));
            }
        }
        int[][] eight = {{8}};
        refused(Due.IMPOSSIBLE, eight, new int[] {9}, "outSplit(0) of one state", x -> x.outSplit(0));
        refused(Due.IMPOSSIBLE, eight, new int[] {9}, "inSplit(0) of one state", x -> x.inSplit(0));
    }

    /** Nor is a share that is equal to the entry too great, nor that of a state that does not exist (yet). */
    private static void sharesUpToTheEntry() {
        for (int state = 0; state < 3; state++) {
            int split = state;
            int[] ofRow = {MIXED[split][0], MIXED[split][1], MIXED[split][2], 9, 9, 9};
            done(4, MIXED, ofRow, "outSplit(" + split + ") with all shares", x -> x.outSplit(split));
            int[] ofColumn = {MIXED[0][split], MIXED[1][split], MIXED[2][split], 9, 9, 9};
            done(4, MIXED, ofColumn, "inSplit(" + split + ") with all shares", x -> x.inSplit(split));
        }
    }

    /** "NOT_POSSIBLE if their columns are not equal", in one row alone. */
    private static void columnsThatDiffer() {
        for (int row = 0; row < 3; row++) {
            int[][] rows = {{2, 2, 1}, {1, 1, 0}, {3, 3, 2}};
            rows[row][1]++;
            refused(Due.IMPOSSIBLE, rows, NO_SHARES, "outMerge(0, 1), apart in row " + row, x -> x.outMerge(0, 1));
            refused(Due.IMPOSSIBLE, rows, NO_SHARES, "outMerge(1, 0), apart in row " + row, x -> x.outMerge(1, 0));
        }
    }

    /** "NOT_POSSIBLE if their rows are not equal", in one column alone. */
    private static void rowsThatDiffer() {
        for (int column = 0; column < 3; column++) {
            int[][] rows = {{2, 1, 3}, {2, 1, 3}, {1, 0, 2}};
            rows[1][column]++;
            refused(Due.IMPOSSIBLE, rows, NO_SHARES, "inMerge(0, 1), apart in column " + column, x -> x.inMerge(0, 1));
            refused(Due.IMPOSSIBLE, rows, NO_SHARES, "inMerge(1, 0), apart in column " + column, x -> x.inMerge(1, 0));
        }
    }

    /** "NOT_POSSIBLE if no state is essential." */
    private static void trimWithoutEssentialStates() {
        for (int states = 1; states <= 6; states++) {
            refused(Due.IMPOSSIBLE, Due.full(states, 0), NO_SHARES, "trim() of " + states + " states without edges",
                    ShiftWorkbench::trim);
            refused(Due.IMPOSSIBLE, Due.chain(states), NO_SHARES, "trim() of a chain of " + states, ShiftWorkbench::trim);
        }
    }

    /** "NOT_POSSIBLE if there is none." */
    private static void undoWithoutChanges() {
        List<Consumer<ShiftWorkbench>> withoutChanges = List.of(
                x -> { },
                x -> x.setShare(2, 5),
                x -> {
                    x.swapSaved();
                    x.undo();
                    x.reset(1);
                    x.undo();
                    x.save();
                },
                x -> {
                    Due.lay(x, MIXED);
                    x.save();
                    keepChanges(x, 0);
                });
        for (Consumer<ShiftWorkbench> calls : withoutChanges) {
            ShiftWorkbench x = new ShiftWorkbench();
            calls.accept(x);
            Due.is("undo() without changes", x.undo(), Due.IMPOSSIBLE);
            Due.same("nothing after undo() without changes",
                    Seen.after(calls.andThen(ShiftWorkbench::undo)), Seen.after(calls));
        }
    }

    // ---- LIMIT_REACHED

    /** "LIMIT_REACHED if N is 6" */
    private static void aSeventhState() {
        for (int state = 0; state < 6; state++) {
            int split = state;
            refused(Due.LIMIT, Due.full(6, 1), NO_SHARES, "outSplit(" + split + ") of six", x -> x.outSplit(split));
            refused(Due.LIMIT, Due.full(6, 1), NO_SHARES, "inSplit(" + split + ") of six", x -> x.inSplit(split));
        }
        int[] ones = {1, 1, 1, 1, 1, 1};
        refused(Due.LIMIT, Due.full(6, 1), ones, "outSplit(0) of six with all shares", x -> x.outSplit(0));
        refused(Due.LIMIT, Due.full(6, 1), ones, "inSplit(0) of six with all shares", x -> x.inSplit(0));
        done(6, Due.full(5, 1), ones, "outSplit(0) of five", x -> x.outSplit(0));
        done(6, Due.full(5, 1), ones, "inSplit(0) of five", x -> x.inSplit(0));
    }

    /** "LIMIT_REACHED if an entry would be greater than 9", by one and at one place alone. */
    private static void entriesAboveNine() {
        int[][] byColumns = {{5, 5, 1}, {4, 4, 6}, {9, 9, 9}};
        done(2, byColumns, NO_SHARES, "outMerge(0, 1) up to 9", x -> x.outMerge(0, 1));
        for (int column = 0; column < 3; column += 2) {
            int[][] rows = {byColumns[0].clone(), byColumns[1].clone(), byColumns[2].clone()};
            rows[1][column] = 10 - rows[0][column];
            rows[1][1] = rows[1][0];
            refused(Due.LIMIT, rows, NO_SHARES, "outMerge(0, 1), 10 in column " + column, x -> x.outMerge(0, 1));
            refused(Due.LIMIT, rows, NO_SHARES, "outMerge(1, 0), 10 in column " + column, x -> x.outMerge(1, 0));
        }
        int[][] byRows = {{5, 4, 9}, {5, 4, 9}, {1, 6, 9}};
        done(2, byRows, NO_SHARES, "inMerge(0, 1) up to 9", x -> x.inMerge(0, 1));
        for (int row = 0; row < 3; row += 2) {
            int[][] rows = {byRows[0].clone(), byRows[1].clone(), byRows[2].clone()};
            rows[row][1] = 10 - rows[row][0];
            rows[1][1] = rows[0][1];
            refused(Due.LIMIT, rows, NO_SHARES, "inMerge(0, 1), 10 in row " + row, x -> x.inMerge(0, 1));
            refused(Due.LIMIT, rows, NO_SHARES, "inMerge(1, 0), 10 in row " + row, x -> x.inMerge(1, 0));
        }
        for (int states = 2; states <= 6; states++) {
            int last = states - 1;
            refused(Due.LIMIT, Due.full(states, 5), NO_SHARES, "outMerge of fives", x -> x.outMerge(0, last));
            refused(Due.LIMIT, Due.full(states, 9), NO_SHARES, "inMerge of nines", x -> x.inMerge(last, 0));
            done(last, Due.full(states, 4), NO_SHARES, "outMerge of fours", x -> x.outMerge(0, last));
            done(last, Due.full(states, 4), NO_SHARES, "inMerge of fours", x -> x.inMerge(last, 0));
        }
    }

    // ---- NOT_FOUND

    /** "it does not exist if there is no such path", as for each state without a way back. */
    private static void periodThatDoesNotExist() {
        int[][] chainWithALoop = Due.chain(6);
        chainWithALoop[3][3] = 2;
        for (int state = 0; state < 6; state++) {
            int asked = state;
            refused(Due.NOT_FOUND, Due.full(6, 0), NO_SHARES, "periodOf(" + asked + ") without edges",
                    x -> x.periodOf(asked));
            if (asked == 3) {
                done(1, chainWithALoop, NO_SHARES, "periodOf(3), the loop", x -> x.periodOf(3));
            } else {
                refused(Due.NOT_FOUND, chainWithALoop, NO_SHARES, "periodOf(" + asked + ") beside a loop",
                        x -> x.periodOf(asked));
            }
        }
    }

    // ---- each pair of errors that may apply to one call

    /** No share is as small as an entry, and no two rows or columns are equal, but the argument is wrong, too. */
    private static void invalidRatherThanNotPossible() {
        for (int wrong : Due.outside(0, 2)) {
            refused(Due.INVALID, MIXED, ALL_NINE, "outSplit(" + wrong + ") with too great shares", x -> x.outSplit(wrong));
            refused(Due.INVALID, MIXED, ALL_NINE, "inSplit(" + wrong + ") with too great shares", x -> x.inSplit(wrong));
            refused(Due.INVALID, MIXED, NO_SHARES, "outMerge(1, " + wrong + ")", x -> x.outMerge(1, wrong));
            refused(Due.INVALID, MIXED, NO_SHARES, "outMerge(" + wrong + ", 1)", x -> x.outMerge(wrong, 1));
            refused(Due.INVALID, MIXED, NO_SHARES, "inMerge(1, " + wrong + ")", x -> x.inMerge(1, wrong));
            refused(Due.INVALID, MIXED, NO_SHARES, "inMerge(" + wrong + ", 1)", x -> x.inMerge(wrong, 1));
        }
    }

    /** There are six states, or entries that would go above 9, but the argument is wrong, too. */
    private static void invalidRatherThanLimit() {
        int[][] nines = Due.full(6, 9);
        for (int wrong : Due.outside(0, 5)) {
            refused(Due.INVALID, nines, NO_SHARES, "outSplit(" + wrong + ") of six", x -> x.outSplit(wrong));
            refused(Due.INVALID, nines, NO_SHARES, "inSplit(" + wrong + ") of six", x -> x.inSplit(wrong));
            refused(Due.INVALID, nines, NO_SHARES, "outMerge(5, " + wrong + ") of nines", x -> x.outMerge(5, wrong));
            refused(Due.INVALID, nines, NO_SHARES, "inMerge(" + wrong + ", 5) of nines", x -> x.inMerge(wrong, 5));
        }
        for (int state = 0; state < 6; state++) {
            int both = state;
            refused(Due.INVALID, nines, NO_SHARES, "outMerge of one and the same nine", x -> x.outMerge(both, both));
            refused(Due.INVALID, nines, NO_SHARES, "inMerge of one and the same nine", x -> x.inMerge(both, both));
        }
        // All three errors apply.
        int[][] ones = Due.full(6, 1);
        refused(Due.INVALID, ones, ALL_NINE, "outSplit(6) of six with too great shares", x -> x.outSplit(6));
        refused(Due.INVALID, ones, ALL_NINE, "inSplit(6) of six with too great shares", x -> x.inSplit(6));
    }

    private static void invalidRatherThanNotFound() {
        for (int wrong : Due.outside(0, 5)) {
            refused(Due.INVALID, Due.full(6, 0), NO_SHARES, "periodOf(" + wrong + ") without edges",
                    x -> x.periodOf(wrong));
        }
        refused(Due.INVALID, Due.full(1, 0), NO_SHARES, "periodOf(1) of one state without edges", x -> x.periodOf(1));
    }

    private static void notPossibleRatherThanLimit() {
        int[][] ones = Due.full(6, 1);
        for (int state = 0; state < 6; state++) {
            int[] shares = NO_SHARES.clone();
            shares[state] = 2;
            for (int split = 0; split < 6; split++) {
                int asked = split;
                refused(Due.IMPOSSIBLE, ones, shares, "outSplit of six, share " + state + " too great",
                        x -> x.outSplit(asked));
                refused(Due.IMPOSSIBLE, ones, shares, "inSplit of six, share " + state + " too great",
                        x -> x.inSplit(asked));
            }
        }
        int[][] apartAndGreat = {{9, 8}, {9, 9}};
        refused(Due.IMPOSSIBLE, apartAndGreat, NO_SHARES, "outMerge of other columns", x -> x.outMerge(0, 1));
        refused(Due.IMPOSSIBLE, apartAndGreat, NO_SHARES, "inMerge of other rows", x -> x.inMerge(0, 1));
        int[][] apartInTheMiddle = {{9, 9, 9}, {9, 8, 9}, {9, 9, 9}};
        refused(Due.IMPOSSIBLE, apartInTheMiddle, NO_SHARES, "outMerge(1, 2)", x -> x.outMerge(1, 2));
        refused(Due.IMPOSSIBLE, apartInTheMiddle, NO_SHARES, "inMerge(0, 1)", x -> x.inMerge(0, 1));
        refused(Due.LIMIT, apartInTheMiddle, NO_SHARES, "outMerge(0, 2)", x -> x.outMerge(0, 2));
        refused(Due.LIMIT, apartInTheMiddle, NO_SHARES, "inMerge(2, 0)", x -> x.inMerge(2, 0));
    }
}
