/** Promises 8 to 12. */
public final class GraphTest {

    public static void main(String[] args) {
        paths();
        greatestPaths();
        components();
        irreducible();
        periods();
        periodOfAWayAround();
        Due.end();
    }

    private static void paths() {
        ShiftWorkbench x = Due.bench(Due.row(1, 2), Due.row(3, 0));
        Due.is("paths(0, 0, 0)", x.paths(0, 0, 0), 1);
        Due.is("paths(0, 1, 0)", x.paths(0, 1, 0), 0);
        Due.is("paths(0, 1, 1)", x.paths(0, 1, 1), 2);
        Due.is("paths(1, 0, 1)", x.paths(1, 0, 1), 3);
        Due.is("paths(0, 0, 2)", x.paths(0, 0, 2), 7);
        Due.is("paths(0, 1, 2)", x.paths(0, 1, 2), 2);
        Due.is("paths(1, 0, 2)", x.paths(1, 0, 2), 3);
        Due.is("paths(1, 1, 2)", x.paths(1, 1, 2), 6);
        // Eigenvalues 3 and -2: the number from 0 to 0 is (3^(n+1) - (-2)^(n+1)) / 5.
        Due.is("paths(0, 0, 8)", x.paths(0, 0, 8), (19683 + 512) / 5);
    }

    private static void greatestPaths() {
        ShiftWorkbench x = Due.bench(Due.full(6, 9));
        long want = 9;
        for (int length = 1; length <= 8; length++) {
            Due.is("paths(2, 5, " + length + ") of nines", x.paths(2, 5, length), want);
            want *= 54;
        }
    }

    private static void components() {
        // 0 and 3 are one component, 1 and 4 another, 2 and 5 stand alone; all are joined one way.
        ShiftWorkbench x = Due.bench(
                Due.row(0, 1, 0, 1, 0, 0),
                Due.row(0, 0, 1, 0, 2, 0),
                Due.row(0, 0, 0, 0, 0, 0),
                Due.row(1, 0, 0, 0, 0, 0),
                Due.row(0, 1, 0, 0, 0, 1),
                Due.row(0, 0, 0, 0, 0, 3));
        Due.is("componentCount()", x.componentCount(), 4);
        int[] want = {0, 1, 2, 0, 1, 3};
        for (int state = 0; state < 6; state++) {
            Due.is("componentOf(" + state + ")", x.componentOf(state), want[state]);
        }
        Due.is("isIrreducible()", x.isIrreducible(), 0);
        ShiftWorkbench ring = ring(6);
        Due.is("componentCount() of a ring", ring.componentCount(), 1);
        Due.is("componentOf(5) of a ring", ring.componentOf(5), 0);
        ring.setEntry(4, 3, 0);
        Due.is("componentCount() of a broken ring", ring.componentCount(), 6);
        Due.is("componentOf(5) of a broken ring", ring.componentOf(5), 5);
    }

    /** The ring goes downwards, so that the way from the lowest state to the next one is the longest. */
    private static ShiftWorkbench ring(int states) {
        ShiftWorkbench x = new ShiftWorkbench();
        x.reset(states);
        for (int state = 0; state < states; state++) {
            x.setEntry((state + 1) % states, state, 1);
        }
        return x;
    }

    private static void irreducible() {
        Due.is("isIrreducible(): new", new ShiftWorkbench().isIrreducible(), 1);
        Due.is("isIrreducible(): one state, 0", Due.bench(Due.row(0)).isIrreducible(), 0);
        Due.is("isIrreducible(): one state, 1", Due.bench(Due.row(1)).isIrreducible(), 1);
        Due.is("isIrreducible(): one state, 9", Due.bench(Due.row(9)).isIrreducible(), 1);
        Due.is("isIrreducible(): the identity", Due.bench(Due.row(1, 0), Due.row(0, 1)).isIrreducible(), 0);
        Due.is("isIrreducible(): one way", Due.bench(Due.row(1, 1), Due.row(0, 1)).isIrreducible(), 0);
        Due.is("isIrreducible(): two ways", Due.bench(Due.row(0, 1), Due.row(1, 0)).isIrreducible(), 1);
        Due.is("isIrreducible(): a ring of six", ring(6).isIrreducible(), 1);
    }

    private static void periods() {
        for (int states = 1; states <= 6; states++) {
            ShiftWorkbench x = ring(states);
            for (int state = 0; state < states; state++) {
                Due.is("periodOf(" + state + ") of a ring of " + states, x.periodOf(state), states);
            }
        }
        ShiftWorkbench x = ring(6);
        x.setEntry(3, 0, 1);
        Due.is("periodOf(0) of cycles of 6 and 4", x.periodOf(0), 2);
        Due.is("periodOf(1) of cycles of 6 and 4", x.periodOf(1), 2);
        x.setEntry(2, 0, 1);
        Due.is("periodOf(4) of cycles of 6, 5 and 4", x.periodOf(4), 1);
        ShiftWorkbench apart = Due.bench(Due.row(0, 1, 0), Due.row(2, 0, 1), Due.row(0, 0, 4));
        Due.is("periodOf(0) beside another cycle", apart.periodOf(0), 2);
        Due.is("periodOf(2) beside another cycle", apart.periodOf(2), 1);
        Due.is("periodOf(0) without edges", Due.bench(Due.row(0)).periodOf(0), Due.NOT_FOUND);
    }

    /** The cycle that makes the period 1 is met far from 0, so that only long ways around show it. */
    private static void periodOfAWayAround() {
        ShiftWorkbench x = Due.bench(
                Due.row(0, 1, 0, 0, 0, 0),
                Due.row(1, 0, 1, 0, 0, 0),
                Due.row(0, 1, 0, 1, 0, 0),
                Due.row(0, 0, 1, 0, 1, 0),
                Due.row(0, 0, 0, 1, 0, 1),
                Due.row(0, 0, 0, 0, 1, 0));
        Due.is("periodOf(0) of ways there and back", x.periodOf(0), 2);
        x.setEntry(5, 5, 1);
        Due.is("periodOf(0) with a loop at 5", x.periodOf(0), 1);
        ShiftWorkbench y = Due.bench(
                Due.row(0, 1, 0, 0, 0, 0),
                Due.row(1, 0, 1, 0, 0, 0),
                Due.row(0, 1, 0, 1, 0, 0),
                Due.row(0, 0, 1, 0, 1, 0),
                Due.row(0, 0, 0, 0, 0, 1),
                Due.row(0, 0, 0, 1, 0, 0));
        Due.is("periodOf(0) with a cycle of 3", y.periodOf(0), 1);
    }
}
