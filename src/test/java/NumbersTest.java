/** Promises 13 to 19. */
public final class NumbersTest {

    public static void main(String[] args) {
        goldenMean();
        greatestCounts();
        ring();
        coefficients();
        radius();
        exactRadius();
        radiusNearATenth();
        determinant();
        factors();
        Due.end();
    }

    private static void goldenMean() {
        ShiftWorkbench x = Due.bench(Due.row(1, 1), Due.row(1, 0));
        long[] blocks = {0, 3, 5, 8, 13, 21, 34, 55, 89};
        long[] points = {0, 1, 3, 4, 7, 11, 18, 29, 47};
        long[] orbits = {0, 1, 1, 1, 1, 2, 2, 4, 5};
        for (int n = 1; n <= 8; n++) {
            Due.is("blocks(" + n + ") of the golden mean", x.blocks(n), blocks[n]);
            Due.is("periodicPoints(" + n + ") of the golden mean", x.periodicPoints(n), points[n]);
            Due.is("orbits(" + n + ") of the golden mean", x.orbits(n), orbits[n]);
        }
    }

    private static void greatestCounts() {
        ShiftWorkbench x = Due.bench(Due.full(6, 9));
        long power = 1;
        for (int n = 1; n <= 8; n++) {
            power *= 54;
            Due.is("blocks(" + n + ") of nines", x.blocks(n), 6 * power);
            Due.is("periodicPoints(" + n + ") of nines", x.periodicPoints(n), power);
        }
        Due.is("orbits(7) of nines", x.orbits(7), (1338925209984L - 54) / 7);
        Due.is("orbits(8) of nines", x.orbits(8), (72301961339136L - 8503056L) / 8);
    }

    /** All points of a ring of four have the least period 4, and there is a part without any cycle. */
    private static void ring() {
        ShiftWorkbench x = Due.bench(
                Due.row(0, 1, 0, 0, 1),
                Due.row(0, 0, 1, 0, 0),
                Due.row(0, 0, 0, 1, 0),
                Due.row(1, 0, 0, 0, 0),
                Due.row(0, 0, 0, 0, 0));
        for (int n = 1; n <= 8; n++) {
            Due.is("blocks(" + n + ") of a ring", x.blocks(n), 5);
            Due.is("periodicPoints(" + n + ") of a ring", x.periodicPoints(n), n % 4 == 0 ? 4 : 0);
            Due.is("orbits(" + n + ") of a ring", x.orbits(n), n == 4 ? 1 : 0);
        }
    }

    private static void coefficients(ShiftWorkbench x, String what, long... want) {
        for (int k = 0; k <= 6; k++) {
            Due.is("coefficient(" + k + ") of " + what, x.coefficient(k), k < want.length ? want[k] : 0);
        }
    }

    private static void coefficients() {
        coefficients(new ShiftWorkbench(), "ones", 1, -2);
        coefficients(Due.bench(Due.row(7)), "one state", 1, -7);
        coefficients(Due.bench(Due.row(1, 2), Due.row(3, 4)), "1 2 3 4", 1, -5, -2);
        // The product of (1 - t) to (1 - 6t).
        ShiftWorkbench triangle = Due.bench(
                Due.row(1, 9, 8, 7, 6, 5),
                Due.row(0, 2, 9, 8, 7, 6),
                Due.row(0, 0, 3, 9, 8, 7),
                Due.row(0, 0, 0, 4, 9, 8),
                Due.row(0, 0, 0, 0, 5, 9),
                Due.row(0, 0, 0, 0, 0, 6));
        coefficients(triangle, "a triangle", 1, -21, 175, -735, 1624, -1764, 720);
        ShiftWorkbench ring = Due.bench(Due.row(0, 2, 0), Due.row(0, 0, 3), Due.row(4, 0, 0));
        coefficients(ring, "a ring", 1, 0, 0, -24);
        coefficients(Due.bench(Due.full(6, 9)), "nines", 1, -54);
    }

    private static void radius() {
        Due.is("radiusTenths(): none", Due.bench(Due.full(6, 0)).radiusTenths(), 0);
        Due.is("radiusTenths(): one state, 0", Due.bench(Due.row(0)).radiusTenths(), 0);
        Due.is("radiusTenths(): a chain", Due.bench(Due.row(0, 9), Due.row(0, 0)).radiusTenths(), 0);
        Due.is("radiusTenths(): the golden mean", Due.bench(Due.row(1, 1), Due.row(1, 0)).radiusTenths(), 16);
        Due.is("radiusTenths(): sqrt(2)", Due.bench(Due.row(0, 2), Due.row(1, 0)).radiusTenths(), 14);
        Due.is("radiusTenths(): sqrt(72)", Due.bench(Due.row(0, 9), Due.row(8, 0)).radiusTenths(), 84);
        // The greatest root lies in the second of two blocks that are joined one way only.
        Due.is("radiusTenths(): two blocks",
                Due.bench(Due.row(2, 5, 0), Due.row(0, 1, 1), Due.row(0, 1, 3)).radiusTenths(), 34);
        // The cube root of 2 * 3 * 4 is 2.884.
        Due.is("radiusTenths(): a ring",
                Due.bench(Due.row(0, 2, 0), Due.row(0, 0, 3), Due.row(4, 0, 0)).radiusTenths(), 28);
    }

    private static void exactRadius() {
        for (int value = 0; value <= 9; value++) {
            Due.is("radiusTenths() of one state, " + value, Due.bench(Due.row(value)).radiusTenths(), 10 * value);
            Due.is("radiusTenths() of six states, all " + value,
                    Due.bench(Due.full(6, value)).radiusTenths(), 60 * value);
        }
        Due.is("radiusTenths() of a ring of two", Due.bench(Due.row(0, 4), Due.row(9, 0)).radiusTenths(), 60);
        Due.is("radiusTenths() of 4 3 3 4", Due.bench(Due.row(4, 3), Due.row(3, 4)).radiusTenths(), 70);
        ShiftWorkbench x = Due.bench(Due.full(6, 9));
        x.setEntry(5, 5, 8);
        // The greater root of x^2 - 53x - 45 is 53.836.
        Due.is("radiusTenths() of nines and one 8", x.radiusTenths(), 538);
    }

    /** "the greatest integer r .. for which the spectral radius is at least r / 10": from just above and just below. */
    private static void radiusNearATenth() {
        // sqrt(24), 1 + sqrt(26), then (a + sqrt(d)) / 2 with d = 41, 185 and 13: 4.899, 6.099, 3.7016, 9.3007, 2.303.
        Due.is("radiusTenths() below 4.9", Due.bench(Due.row(0, 3), Due.row(8, 0)).radiusTenths(), 48);
        Due.is("radiusTenths() below 6.1", Due.bench(Due.row(2, 5), Due.row(5, 0)).radiusTenths(), 60);
        Due.is("radiusTenths() above 3.7", Due.bench(Due.row(1, 2), Due.row(5, 0)).radiusTenths(), 37);
        Due.is("radiusTenths() above 9.3", Due.bench(Due.row(5, 5), Due.row(8, 0)).radiusTenths(), 93);
        Due.is("radiusTenths() above 2.3", Due.bench(Due.row(1, 1), Due.row(3, 0)).radiusTenths(), 23);
        // 5.7^6 is 34296.4, 4.2^6 is 5489.03 and 4.3^5 is 1470.08.
        Due.is("radiusTenths() above 5.7", ringWith(7, 7, 7, 5, 5, 4).radiusTenths(), 57);
        Due.is("radiusTenths() below 4.2", ringWith(8, 7, 7, 7, 2, 1).radiusTenths(), 41);
        Due.is("radiusTenths() below 4.3", ringWith(7, 7, 6, 5, 1).radiusTenths(), 42);
    }

    /** The radius is the root of the product. */
    private static ShiftWorkbench ringWith(int... edges) {
        int[][] rows = new int[edges.length][edges.length];
        for (int state = 0; state < edges.length; state++) {
            rows[state][(state + 1) % edges.length] = edges[state];
        }
        return Due.bench(rows);
    }

    private static void determinant() {
        Due.is("determinant() of ones", new ShiftWorkbench().determinant(), -1);
        Due.is("determinant() of no edges", Due.bench(Due.full(6, 0)).determinant(), 1);
        Due.is("determinant() of one state", Due.bench(Due.row(9)).determinant(), -8);
        Due.is("determinant() of the identity", Due.bench(Due.row(1, 0), Due.row(0, 1)).determinant(), 0);
        Due.is("determinant() of 1 2 3 4", Due.bench(Due.row(1, 2), Due.row(3, 4)).determinant(), -6);
        Due.is("determinant() of a ring", Due.bench(
                Due.row(0, 2, 0), Due.row(0, 0, 3), Due.row(4, 0, 0)).determinant(), -23);
        Due.is("determinant() of nines", Due.bench(Due.full(6, 9)).determinant(), -53);
        Due.is("determinant() of 9 * I", Due.bench(Due.diagonal(6, 9)).determinant(), 262144);
    }

    private static void factors(ShiftWorkbench x, String what, long... want) {
        for (int k = 1; k <= want.length; k++) {
            Due.is("factor(" + k + ") of " + what, x.factor(k), want[k - 1]);
        }
        Due.is("factor(" + (want.length + 1) + ") of " + what, x.factor(want.length + 1), Due.INVALID);
    }

    private static void factors() {
        factors(new ShiftWorkbench(), "ones", 1, 1);
        factors(Due.bench(Due.row(0)), "one state, 0", 1);
        factors(Due.bench(Due.row(1)), "one state, 1", 0);
        factors(Due.bench(Due.row(9)), "one state, 9", 8);
        factors(Due.bench(Due.row(1, 0), Due.row(0, 1)), "the identity", 0, 0);
        factors(Due.bench(Due.row(4, 3), Due.row(3, 4)), "4 3 3 4", 3, 0);
        factors(Due.bench(Due.row(6, 1), Due.row(1, 6)), "6 1 1 6", 1, 24);
        // I - A is -diag(4, 6): the factors are the common divisor 2 and 24 / 2.
        factors(Due.bench(Due.row(5, 0), Due.row(0, 7)), "5 0 0 7", 2, 12);
        factors(Due.bench(Due.row(7, 0, 0), Due.row(0, 5, 0), Due.row(0, 0, 1)), "7, 5 and 1", 2, 12, 0);
        // -diag(2, 6, 4, 8, 6, 2): by the primes, 2^(1 1 1 1 2 3) and 3^(0 0 0 0 1 1).
        ShiftWorkbench diagonal = Due.bench(Due.full(6, 0));
        int[] entries = {3, 7, 5, 9, 7, 3};
        for (int state = 0; state < 6; state++) {
            diagonal.setEntry(state, state, entries[state]);
        }
        factors(diagonal, "a diagonal", 2, 2, 2, 2, 12, 24);
        factors(Due.bench(Due.full(6, 9)), "nines", 1, 1, 1, 1, 1, 53);
    }
}
