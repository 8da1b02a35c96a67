import java.math.BigInteger;
import java.util.ArrayDeque;
import java.util.ArrayList;
import java.util.Collections;
import java.util.Deque;
import java.util.List;

/**
 * The document once more, by other ways than the program's wherever there are other ways, and without its limits
 * on room: Newton's identities for the zeta function, a Taylor shift for the radius, row and column steps for the
 * factors, and splits and merges written out twice.
 */
final class Model {

    private static final int INVALID = -1000001;
    private static final int IMPOSSIBLE = -1000002;
    private static final int LIMIT = -1000003;
    private static final int MISSING = -1000004;

    private int[][] a = {{1, 1}, {1, 1}};
    private int[][] kept = {{1, 1}, {1, 1}};
    private final int[] shares = new int[6];
    private final Deque<int[][][]> past = new ArrayDeque<>();

    // ---- matrix

    int reset(int states) {
        if (states < 1 || states > 6) {
            return INVALID;
        }
        int old = a.length;
        change(new int[states][states]);
        return old;
    }

    int setEntry(int row, int column, int value) {
        if (no(row) || no(column) || value < 0 || value > 9) {
            return INVALID;
        }
        int old = a[row][column];
        int[][] b = copy(a);
        b[row][column] = value;
        change(b);
        return old;
    }

    int entry(int row, int column) {
        return no(row) || no(column) ? INVALID : a[row][column];
    }

    int size() {
        return a.length;
    }

    int essentialStates() {
        boolean[][] longer = longerPaths();
        int mask = 0;
        for (int i = 0; i < a.length; i++) {
            boolean in = false;
            boolean out = false;
            for (int c = 0; c < a.length; c++) {
                in |= longer[c][c] && (c == i || longer[c][i]);
                out |= longer[c][c] && (c == i || longer[i][c]);
            }
            mask |= in && out ? 1 << i : 0;
        }
        return mask;
    }

    int trim() {
        int mask = essentialStates();
        if (mask == 0) {
            return IMPOSSIBLE;
        }
        List<Integer> left = new ArrayList<>();
        for (int i = 0; i < a.length; i++) {
            if ((mask >> i) % 2 == 1) {
                left.add(i);
            }
        }
        int removed = a.length - left.size();
        change(only(a, left));
        return removed;
    }

    // ---- graph

    long paths(int from, int to, int length) {
        if (no(from) || no(to) || length < 0 || length > 8) {
            return INVALID;
        }
        return power(a, length)[from][to].longValueExact();
    }

    int componentCount() {
        int greatest = 0;
        for (int number : components()) {
            greatest = Math.max(greatest, number);
        }
        return greatest + 1;
    }

    int componentOf(int state) {
        return no(state) ? INVALID : components()[state];
    }

    int isIrreducible() {
        int sum = 0;
        for (int[] row : a) {
            for (int value : row) {
                sum += value;
            }
        }
        return componentCount() == 1 && sum > 0 ? 1 : 0;
    }

    int periodOf(int state) {
        if (no(state)) {
            return INVALID;
        }
        BigInteger divisor = BigInteger.ZERO;
        for (int n = 1; n <= 40; n++) {
            if (power(a, n)[state][state].signum() > 0) {
                divisor = divisor.gcd(BigInteger.valueOf(n));
            }
        }
        return divisor.signum() == 0 ? MISSING : divisor.intValueExact();
    }

    // ---- numbers of the shift

    long blocks(int length) {
        if (length < 1 || length > 8) {
            return INVALID;
        }
        BigInteger sum = BigInteger.ZERO;
        for (BigInteger[] row : power(a, length)) {
            for (BigInteger value : row) {
                sum = sum.add(value);
            }
        }
        return sum.longValueExact();
    }

    long periodicPoints(int period) {
        return period < 1 || period > 8 ? INVALID : trace(a, period).longValueExact();
    }

    long orbits(int length) {
        if (length < 1 || length > 8) {
            return INVALID;
        }
        int[] moebius = {0, 1, -1, -1, 0, -1, 1, -1, 0};
        BigInteger sum = BigInteger.ZERO;
        for (int d = 1; d <= length; d++) {
            if (length % d == 0) {
                sum = sum.add(trace(a, d).multiply(BigInteger.valueOf(moebius[length / d])));
            }
        }
        BigInteger[] parts = sum.divideAndRemainder(BigInteger.valueOf(length));
        if (parts[1].signum() != 0) {
            throw new IllegalStateException("orbits of a broken number of points");
        }
        return parts[0].longValueExact();
    }

    long coefficient(int power) {
        return power < 0 || power > 6 ? INVALID : zeta(a)[power].longValueExact();
    }

    int radiusTenths() {
        int r = 0;
        while (!radiusIsBelow(r + 1)) {
            r++;
        }
        return r;
    }

    long determinant() {
        BigInteger sum = BigInteger.ZERO;
        for (BigInteger c : zeta(a)) {
            sum = sum.add(c);
        }
        return sum.longValueExact();
    }

    long factor(int k) {
        return k < 1 || k > a.length ? INVALID : factors(a).get(k - 1).longValueExact();
    }

    // ---- splitting and merging

    int setShare(int state, int share) {
        if (state < 0 || state > 5 || share < 0 || share > 9) {
            return INVALID;
        }
        int old = shares[state];
        shares[state] = share;
        return old;
    }

    int outSplit(int i) {
        if (no(i)) {
            return INVALID;
        }
        int n = a.length;
        for (int j = 0; j < n; j++) {
            if (shares[j] > a[i][j]) {
                return IMPOSSIBLE;
            }
        }
        if (n == 6) {
            return LIMIT;
        }
        int[][] b = widened(a);
        for (int j = 0; j < n; j++) {
            b[i][j] -= shares[j];
            b[n][j] = shares[j];
        }
        for (int r = 0; r <= n; r++) {
            b[r][n] = b[r][i];
        }
        change(b);
        return n + 1;
    }

    int inSplit(int i) {
        if (no(i)) {
            return INVALID;
        }
        int n = a.length;
        for (int j = 0; j < n; j++) {
            if (shares[j] > a[j][i]) {
                return IMPOSSIBLE;
            }
        }
        if (n == 6) {
            return LIMIT;
        }
        int[][] b = widened(a);
        for (int j = 0; j < n; j++) {
            b[j][i] -= shares[j];
            b[j][n] = shares[j];
        }
        for (int c = 0; c <= n; c++) {
            b[n][c] = b[i][c];
        }
        change(b);
        return n + 1;
    }

    int outMerge(int first, int second) {
        if (no(first) || no(second) || first == second) {
            return INVALID;
        }
        for (int[] row : a) {
            if (row[first] != row[second]) {
                return IMPOSSIBLE;
            }
        }
        return changeIfSmall(outMerged(a, Math.min(first, second), Math.max(first, second)));
    }

    int inMerge(int first, int second) {
        if (no(first) || no(second) || first == second) {
            return INVALID;
        }
        for (int c = 0; c < a.length; c++) {
            if (a[first][c] != a[second][c]) {
                return IMPOSSIBLE;
            }
        }
        int low = Math.min(first, second);
        int high = Math.max(first, second);
        int[][] b = copy(a);
        for (int[] row : b) {
            row[low] += row[high];
        }
        return changeIfSmall(without(b, high));
    }

    int coreSize() {
        return core(a);
    }

    // ---- comparing

    int save() {
        kept = copy(a);
        return a.length;
    }

    int swapSaved() {
        int[][] old = a;
        change(copy(kept));
        kept = old;
        return a.length;
    }

    int differences() {
        int mask = 0;
        mask |= java.util.Arrays.equals(zeta(a), zeta(kept)) ? 0 : 1;
        mask |= properFactors(a).equals(properFactors(kept)) ? 0 : 2;
        mask |= core(a) == core(kept) ? 0 : 4;
        return mask;
    }

    int undo() {
        if (past.isEmpty()) {
            return IMPOSSIBLE;
        }
        int[][][] both = past.removeLast();
        a = both[0];
        kept = both[1];
        return past.size();
    }

    // ---- helpers

    private boolean no(int state) {
        return state < 0 || state >= a.length;
    }

    private void change(int[][] b) {
        past.addLast(new int[][][] {copy(a), copy(kept)});
        if (past.size() > 4) {
            past.removeFirst();
        }
        a = b;
    }

    private int changeIfSmall(int[][] b) {
        for (int[] row : b) {
            for (int value : row) {
                if (value > 9) {
                    return LIMIT;
                }
            }
        }
        change(b);
        return b.length;
    }

    private static int[][] copy(int[][] m) {
        int[][] b = new int[m.length][];
        for (int r = 0; r < m.length; r++) {
            b[r] = m[r].clone();
        }
        return b;
    }

    private static int[][] widened(int[][] m) {
        int[][] b = new int[m.length + 1][m.length + 1];
        for (int r = 0; r < m.length; r++) {
            System.arraycopy(m[r], 0, b[r], 0, m.length);
        }
        return b;
    }

    private static int[][] only(int[][] m, List<Integer> states) {
        int[][] b = new int[states.size()][states.size()];
        for (int r = 0; r < b.length; r++) {
            for (int c = 0; c < b.length; c++) {
                b[r][c] = m[states.get(r)][states.get(c)];
            }
        }
        return b;
    }

    private static int[][] without(int[][] m, int state) {
        List<Integer> states = new ArrayList<>();
        for (int i = 0; i < m.length; i++) {
            if (i != state) {
                states.add(i);
            }
        }
        return only(m, states);
    }

    private static int[][] outMerged(int[][] m, int low, int high) {
        int[][] b = copy(m);
        for (int c = 0; c < m.length; c++) {
            b[low][c] += b[high][c];
        }
        return without(b, high);
    }

    /** Takes the last pair first, and the program the first one: the document says that the order is all the same. */
    private static int core(int[][] m) {
        for (int low = m.length - 2; low >= 0; low--) {
            for (int high = m.length - 1; high > low; high--) {
                boolean equal = true;
                for (int[] row : m) {
                    equal &= row[low] == row[high];
                }
                if (equal) {
                    return core(outMerged(m, low, high));
                }
            }
        }
        return m.length;
    }

    private boolean[][] longerPaths() {
        int n = a.length;
        boolean[][] is = new boolean[n][n];
        for (int i = 0; i < n; i++) {
            for (int j = 0; j < n; j++) {
                is[i][j] = a[i][j] > 0;
            }
        }
        for (int k = 0; k < n; k++) {
            for (int i = 0; i < n; i++) {
                for (int j = 0; j < n; j++) {
                    is[i][j] |= is[i][k] && is[k][j];
                }
            }
        }
        return is;
    }

    private int[] components() {
        boolean[][] longer = longerPaths();
        int[] numbers = new int[a.length];
        int next = 0;
        for (int i = 0; i < a.length; i++) {
            numbers[i] = -1;
            for (int j = 0; j < i && numbers[i] < 0; j++) {
                if (longer[i][j] && longer[j][i]) {
                    numbers[i] = numbers[j];
                }
            }
            if (numbers[i] < 0) {
                numbers[i] = next++;
            }
        }
        return numbers;
    }

    private static BigInteger[][] power(int[][] m, int exponent) {
        int n = m.length;
        BigInteger[][] p = new BigInteger[n][n];
        for (int i = 0; i < n; i++) {
            for (int j = 0; j < n; j++) {
                p[i][j] = i == j ? BigInteger.ONE : BigInteger.ZERO;
            }
        }
        for (int e = 0; e < exponent; e++) {
            BigInteger[][] q = new BigInteger[n][n];
            for (int i = 0; i < n; i++) {
                for (int j = 0; j < n; j++) {
                    q[i][j] = BigInteger.ZERO;
                    for (int k = 0; k < n; k++) {
                        q[i][j] = q[i][j].add(p[k][j].multiply(BigInteger.valueOf(m[i][k])));
                    }
                }
            }
            p = q;
        }
        return p;
    }

    private static BigInteger trace(int[][] m, int exponent) {
        BigInteger[][] p = power(m, exponent);
        BigInteger sum = BigInteger.ZERO;
        for (int i = 0; i < m.length; i++) {
            sum = sum.add(p[i][i]);
        }
        return sum;
    }

    /** Newton: k * c(k) = -(trace(1) * c(k - 1) + ... + trace(k) * c(0)). */
    private static BigInteger[] zeta(int[][] m) {
        BigInteger[] c = new BigInteger[7];
        c[0] = BigInteger.ONE;
        for (int k = 1; k <= 6; k++) {
            BigInteger sum = BigInteger.ZERO;
            for (int i = 1; i <= k; i++) {
                sum = sum.add(trace(m, i).multiply(c[k - i]));
            }
            c[k] = sum.negate().divide(BigInteger.valueOf(k));
        }
        return c;
    }

    /**
     * The radius is itself a root of the characteristic polynomial, and the real roots of all its derivatives are
     * no greater; so the radius is below x just when all coefficients at x are positive.
     */
    private boolean radiusIsBelow(int tenths) {
        int n = a.length;
        BigInteger[] c = zeta(a);
        BigInteger[] q = new BigInteger[n + 1];
        for (int k = 0; k <= n; k++) {
            q[n - k] = c[k].multiply(BigInteger.TEN.pow(k));
        }
        for (int i = 0; i <= n; i++) {
            for (int j = n - 1; j >= i; j--) {
                q[j] = q[j].add(q[j + 1].multiply(BigInteger.valueOf(tenths)));
            }
            if (q[i].signum() <= 0) {
                return false;
            }
        }
        return true;
    }

    private static List<BigInteger> properFactors(int[][] m) {
        List<BigInteger> list = new ArrayList<>(factors(m));
        list.removeIf(BigInteger.ONE::equals);
        Collections.sort(list);
        return list;
    }

    /** The diagonal of Smith's normal form of I - A. */
    private static List<BigInteger> factors(int[][] m) {
        int n = m.length;
        BigInteger[][] b = new BigInteger[n][n];
        for (int i = 0; i < n; i++) {
            for (int j = 0; j < n; j++) {
                b[i][j] = BigInteger.valueOf((i == j ? 1 : 0) - m[i][j]);
            }
        }
        List<BigInteger> diagonal = new ArrayList<>();
        for (int t = 0; t < n; t++) {
            while (moveLeastTo(b, t) && !reduce(b, t)) {
                continue;
            }
            diagonal.add(b[t][t].abs());
        }
        return diagonal;
    }

    /** Brings the least entry other than 0, of those not done with, to the place t. */
    private static boolean moveLeastTo(BigInteger[][] b, int t) {
        int row = -1;
        int column = -1;
        for (int i = t; i < b.length; i++) {
            for (int j = t; j < b.length; j++) {
                boolean less = row < 0 || b[i][j].abs().compareTo(b[row][column].abs()) < 0;
                if (b[i][j].signum() != 0 && less) {
                    row = i;
                    column = j;
                }
            }
        }
        if (row < 0) {
            return false;
        }
        BigInteger[] swapped = b[t];
        b[t] = b[row];
        b[row] = swapped;
        for (BigInteger[] line : b) {
            BigInteger value = line[t];
            line[t] = line[column];
            line[column] = value;
        }
        return true;
    }

    /** Returns whether the entry at t now stands alone in its row and column and divides all that is left. */
    private static boolean reduce(BigInteger[][] b, int t) {
        int n = b.length;
        boolean done = true;
        for (int i = t + 1; i < n; i++) {
            BigInteger times = b[i][t].divide(b[t][t]);
            for (int j = t; j < n; j++) {
                b[i][j] = b[i][j].subtract(times.multiply(b[t][j]));
            }
            done &= b[i][t].signum() == 0;
        }
        for (int j = t + 1; j < n; j++) {
            BigInteger times = b[t][j].divide(b[t][t]);
            for (int i = t; i < n; i++) {
                b[i][j] = b[i][j].subtract(times.multiply(b[i][t]));
            }
            done &= b[t][j].signum() == 0;
        }
        for (int i = t + 1; done && i < n; i++) {
            for (int j = t + 1; j < n; j++) {
                if (b[i][j].mod(b[t][t].abs()).signum() != 0) {
                    for (int k = t; k < n; k++) {
                        b[t][k] = b[t][k].add(b[i][k]);
                    }
                    return false;
                }
            }
        }
        return done;
    }
}
