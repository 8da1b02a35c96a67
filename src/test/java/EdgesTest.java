import java.util.function.IntToLongFunction;

/**
 * What every question answers of the matrices at the ends, from one state to six: without edges, of nines,
 * of loops alone, chains that no state of is essential, and rings.
 */
public final class EdgesTest {

    public static void main(String[] args) {
        for (int states = 1; states <= 6; states++) {
            zeros(states);
            nines(states);
            chain(states);
            ninesAboveTheDiagonal(states);
            ring(states);
            for (int value = 1; value <= 9; value++) {
                loops(states, value);
            }
        }
        oneState();
        Due.end();
    }

    /** A number that is due for each pair of states, or for a pair of a state and something else. */
    private interface OfTwo {
        long due(int first, int second);
    }

    private static final class Asked {
        private final String what;
        private final ShiftWorkbench x;
        private final int states;

        Asked(String what, int[][] rows) {
            this.what = what + " of " + rows.length + ": ";
            this.x = Due.bench(rows);
            this.states = rows.length;
            Due.matrix(this.what, x, rows);
        }

        void essential(int set) {
            Due.is(what + "essentialStates()", x.essentialStates(), set);
        }

        void componentsAndIrreducible(IntToLongFunction componentOf, int count, int irreducible) {
            for (int state = 0; state < states; state++) {
                Due.is(what + "componentOf(" + state + ")", x.componentOf(state), componentOf.applyAsLong(state));
            }
            Due.is(what + "componentCount()", x.componentCount(), count);
            Due.is(what + "isIrreducible()", x.isIrreducible(), irreducible);
        }

        void periods(int due) {
            for (int state = 0; state < states; state++) {
                Due.is(what + "periodOf(" + state + ")", x.periodOf(state), due);
            }
        }

        /** The paths of each length from 1; those of length 0 are the same for all matrices. */
        void paths(int length, OfTwo due) {
            for (int from = 0; from < states; from++) {
                for (int to = 0; to < states; to++) {
                    String ends = what + "paths(" + from + ", " + to + ", ";
                    Due.is(ends + "0)", x.paths(from, to, 0), from == to ? 1 : 0);
                    Due.is(ends + length + ")", x.paths(from, to, length), due.due(from, to));
                }
            }
        }

        void counts(int length, long blocks, long points, long orbits) {
            Due.is(what + "blocks(" + length + ")", x.blocks(length), blocks);
            Due.is(what + "periodicPoints(" + length + ")", x.periodicPoints(length), points);
            Due.is(what + "orbits(" + length + ")", x.orbits(length), orbits);
        }

        void coefficients(IntToLongFunction due) {
            Due.is(what + "coefficient(0)", x.coefficient(0), 1);
            for (int power = 1; power <= 6; power++) {
                Due.is(what + "coefficient(" + power + ")", x.coefficient(power), due.applyAsLong(power));
            }
        }

        void factors(IntToLongFunction due) {
            for (int k = 1; k <= states; k++) {
                Due.is(what + "factor(" + k + ")", x.factor(k), due.applyAsLong(k));
            }
        }

        void radiusDeterminantAndCore(int radius, long determinant, int core) {
            Due.is(what + "radiusTenths()", x.radiusTenths(), radius);
            Due.is(what + "determinant()", x.determinant(), determinant);
            Due.is(what + "coreSize()", x.coreSize(), core);
        }

        void trims(int due) {
            Due.is(what + "trim()", x.trim(), due);
        }

        /** Each of them from the matrix itself, so that those that are made are undone. */
        void splits(int due) {
            for (int state = 0; state < states; state++) {
                undone("outSplit(" + state + ")", x.outSplit(state), due);
                undone("inSplit(" + state + ")", x.inSplit(state), due);
            }
        }

        void merges(int due) {
            for (int first = 0; first < states; first++) {
                for (int second = 0; second < states; second++) {
                    int dueHere = first == second ? Due.INVALID : due;
                    String pair = "(" + first + ", " + second + ")";
                    undone("outMerge" + pair, x.outMerge(first, second), dueHere);
                    undone("inMerge" + pair, x.inMerge(first, second), dueHere);
                }
            }
        }

        private void undone(String call, int got, int due) {
            Due.is(what + call, got, due);
            if (got > 0) {
                x.undo();
            }
        }
    }

    private static int all(int states) {
        return (1 << states) - 1;
    }

    private static int splitTo(int states) {
        return states == 6 ? Due.LIMIT : states + 1;
    }

    private static long power(long base, int exponent) {
        long product = 1;
        for (int factor = 0; factor < exponent; factor++) {
            product *= base;
        }
        return product;
    }

    private static long chosen(int from, int count) {
        long ways = 1;
        for (int step = 1; step <= count; step++) {
            ways = ways * (from - count + step) / step;
        }
        return count > from ? 0 : ways;
    }

    /** The orbits of a single state with so many loops. */
    private static long orbitsOfLoops(long loops, int length) {
        int[] sign = {0, 1, -1, -1, 0, -1, 1, -1, 0};
        long sum = 0;
        for (int divisor = 1; divisor <= length; divisor++) {
            sum += length % divisor == 0 ? sign[length / divisor] * power(loops, divisor) : 0;
        }
        return sum / length;
    }

    private static void zeros(int states) {
        Asked zeros = new Asked("zeros", Due.full(states, 0));
        zeros.essential(0);
        zeros.trims(Due.IMPOSSIBLE);
        zeros.componentsAndIrreducible(state -> state, states, 0);
        zeros.periods(Due.NOT_FOUND);
        for (int length = 1; length <= 8; length++) {
            zeros.paths(length, (from, to) -> 0);
            zeros.counts(length, 0, 0, 0);
        }
        zeros.coefficients(power -> 0);
        zeros.factors(k -> 1);
        zeros.radiusDeterminantAndCore(0, 1, 1);
        zeros.splits(splitTo(states));
        zeros.merges(states - 1);
    }

    private static void nines(int states) {
        int sum = 9 * states;
        Asked nines = new Asked("nines", Due.full(states, 9));
        nines.essential(all(states));
        nines.trims(0);
        nines.componentsAndIrreducible(state -> 0, 1, 1);
        nines.periods(1);
        for (int length = 1; length <= 8; length++) {
            long paths = 9 * power(sum, length - 1);
            nines.paths(length, (from, to) -> paths);
            nines.counts(length, states * power(sum, length), power(sum, length), orbitsOfLoops(sum, length));
        }
        nines.coefficients(power -> power == 1 ? -sum : 0);
        nines.factors(k -> k < states ? 1 : sum - 1);
        nines.radiusDeterminantAndCore(10 * sum, 1 - sum, 1);
        nines.splits(splitTo(states));
        nines.merges(Due.LIMIT);
    }

    private static void chain(int states) {
        Asked chain = new Asked("a chain", Due.chain(states));
        chain.essential(0);
        chain.trims(Due.IMPOSSIBLE);
        chain.componentsAndIrreducible(state -> state, states, 0);
        chain.periods(Due.NOT_FOUND);
        for (int length = 1; length <= 8; length++) {
            int edges = length;
            chain.paths(length, (from, to) -> to - from == edges ? 1 : 0);
            chain.counts(length, Math.max(states - length, 0), 0, 0);
        }
        chain.coefficients(power -> 0);
        chain.factors(k -> 1);
        chain.radiusDeterminantAndCore(0, 1, states);
        chain.splits(splitTo(states));
        chain.merges(Due.IMPOSSIBLE);
    }

    private static void ninesAboveTheDiagonal(int states) {
        int[][] rows = new int[states][states];
        for (int row = 0; row < states; row++) {
            for (int column = row + 1; column < states; column++) {
                rows[row][column] = 9;
            }
        }
        Asked above = new Asked("nines above the diagonal", rows);
        above.essential(0);
        above.trims(Due.IMPOSSIBLE);
        above.componentsAndIrreducible(state -> state, states, 0);
        above.periods(Due.NOT_FOUND);
        for (int length = 1; length <= 8; length++) {
            int edges = length;
            long each = power(9, length);
            above.paths(length, (from, to) -> to <= from ? 0 : each * chosen(to - from - 1, edges - 1));
            above.counts(length, each * chosen(states, length + 1), 0, 0);
        }
        above.coefficients(power -> 0);
        above.factors(k -> 1);
        above.radiusDeterminantAndCore(0, 1, states);
        above.merges(Due.IMPOSSIBLE);
    }

    private static void ring(int states) {
        Asked ring = new Asked("a ring", Due.ring(states));
        ring.essential(all(states));
        ring.trims(0);
        ring.componentsAndIrreducible(state -> 0, 1, 1);
        ring.periods(states);
        for (int length = 1; length <= 8; length++) {
            int edges = length;
            ring.paths(length, (from, to) -> (from + edges) % states == to ? 1 : 0);
            ring.counts(length, states, length % states == 0 ? states : 0, length == states ? 1 : 0);
        }
        ring.coefficients(power -> power == states ? -1 : 0);
        ring.factors(k -> k < states ? 1 : 0);
        ring.radiusDeterminantAndCore(10, 0, states);
        ring.splits(splitTo(states));
        ring.merges(Due.IMPOSSIBLE);
    }

    private static void loops(int states, int value) {
        Asked loops = new Asked(value + " loops at each state", Due.diagonal(states, value));
        loops.essential(all(states));
        loops.trims(0);
        loops.componentsAndIrreducible(state -> state, states, states == 1 ? 1 : 0);
        loops.periods(1);
        for (int length = 1; length <= 8; length++) {
            long ofOne = power(value, length);
            loops.paths(length, (from, to) -> from == to ? ofOne : 0);
            loops.counts(length, states * ofOne, states * ofOne, states * orbitsOfLoops(value, length));
        }
        loops.coefficients(k -> chosen(states, k) * power(-value, k));
        loops.factors(k -> value - 1);
        loops.radiusDeterminantAndCore(10 * value, power(1 - value, states), states);
        loops.splits(splitTo(states));
        loops.merges(Due.IMPOSSIBLE);
    }

    /** There is no other state to merge it with, and only 0 to split or to set. */
    private static void oneState() {
        for (int value = 0; value <= 9; value++) {
            ShiftWorkbench x = Due.bench(Due.row(value));
            Due.is("outMerge(0, 0) of one state", x.outMerge(0, 0), Due.INVALID);
            Due.is("inMerge(0, 1) of one state", x.inMerge(0, 1), Due.INVALID);
            Due.is("factor(2) of one state", x.factor(2), Due.INVALID);
            Due.is("isIrreducible() of one state with " + value, x.isIrreducible(), value == 0 ? 0 : 1);
            x.setShare(0, value);
            Due.is("outSplit(0) of one state with " + value, x.outSplit(0), 2);
            Due.matrix("one state with " + value + ", split", x, Due.row(0, 0), Due.row(value, value));
        }
    }
}
