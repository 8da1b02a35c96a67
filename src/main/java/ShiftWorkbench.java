/**
 * A workbench for shifts of finite type that are given by matrices of nonnegative integers.
 * Every row that a call works in is made with the object, so that the calls themselves make none.
 */
public final class ShiftWorkbench {

    public static final int INVALID_ARGUMENT = -1000001;
    public static final int NOT_POSSIBLE = -1000002;
    public static final int LIMIT_REACHED = -1000003;
    public static final int NOT_FOUND = -1000004;

    private static final int MAX_STATES = 6;
    private static final int MAX_ENTRY = 9;
    private static final int MAX_LENGTH = 8;
    private static final int MAX_CHANGES = 4;
    private static final int INITIAL_STATES = 2;

    private final Matrix matrix = new Matrix();
    private final Matrix saved = new Matrix();
    private final Matrix draft = new Matrix();
    private final History history = new History();
    private final Walks walks = new Walks();
    private final Minors minors = new Minors();
    private final int[] shares = new int[MAX_STATES];
    private final long[] leastPeriodPoints = new long[MAX_LENGTH + 1];

    public ShiftWorkbench() {
        matrix.fill(INITIAL_STATES, 1);
        saved.fill(INITIAL_STATES, 1);
    }

    // ---- matrix

    public int reset(int states) {
        if (!isWithin(states, 1, MAX_STATES)) {
            return INVALID_ARGUMENT;
        }
        int previous = matrix.order();
        history.remember(matrix, saved);
        matrix.fill(states, 0);
        return previous;
    }

    public int setEntry(int row, int column, int value) {
        if (!matrix.has(row) || !matrix.has(column) || !isWithin(value, 0, MAX_ENTRY)) {
            return INVALID_ARGUMENT;
        }
        int previous = matrix.cell(row, column);
        history.remember(matrix, saved);
        matrix.put(row, column, value);
        return previous;
    }

    public int entry(int row, int column) {
        if (!matrix.has(row) || !matrix.has(column)) {
            return INVALID_ARGUMENT;
        }
        return matrix.cell(row, column);
    }

    public int size() {
        return matrix.order();
    }

    public int essentialStates() {
        return Graph.essentialSet(matrix);
    }

    public int trim() {
        int essential = Graph.essentialSet(matrix);
        if (essential == 0) {
            return NOT_POSSIBLE;
        }
        int previous = matrix.order();
        history.remember(matrix, saved);
        // From the highest state down, so that the numbers of those still to be looked at stay.
        for (int state = previous - 1; state >= 0; state--) {
            if ((essential >> state & 1) == 0) {
                matrix.remove(state);
            }
        }
        return previous - matrix.order();
    }

    // ---- graph

    public long paths(int from, int to, int length) {
        if (!matrix.has(from) || !matrix.has(to) || !isWithin(length, 0, MAX_LENGTH)) {
            return INVALID_ARGUMENT;
        }
        walks.beginAt(from);
        walks.go(matrix, length);
        return walks.endingAt(to);
    }

    public int componentCount() {
        return Graph.componentsBelow(matrix, matrix.order());
    }

    public int componentOf(int state) {
        if (!matrix.has(state)) {
            return INVALID_ARGUMENT;
        }
        return Graph.componentsBelow(matrix, Graph.lowestOfComponent(matrix, state));
    }

    public int isIrreducible() {
        boolean oneComponent = Graph.componentsBelow(matrix, matrix.order()) == 1;
        return oneComponent && matrix.greatestCell() > 0 ? 1 : 0;
    }

    public int periodOf(int state) {
        if (!matrix.has(state)) {
            return INVALID_ARGUMENT;
        }
        int period = Graph.divisorOfReturns(matrix, state);
        return period == 0 ? NOT_FOUND : period;
    }

    // ---- numbers of the shift

    public long blocks(int length) {
        if (!isWithin(length, 1, MAX_LENGTH)) {
            return INVALID_ARGUMENT;
        }
        walks.beginEverywhere();
        walks.go(matrix, length);
        return walks.endingAnywhere();
    }

    public long periodicPoints(int period) {
        if (!isWithin(period, 1, MAX_LENGTH)) {
            return INVALID_ARGUMENT;
        }
        return closedPaths(period);
    }

    public long orbits(int length) {
        if (!isWithin(length, 1, MAX_LENGTH)) {
            return INVALID_ARGUMENT;
        }
        for (int period = 1; period <= length; period++) {
            if (length % period == 0) {
                leastPeriodPoints[period] = closedPaths(period) - pointsOfLesserPeriods(period);
            }
        }
        return leastPeriodPoints[length] / length;
    }

    public long coefficient(int power) {
        if (!isWithin(power, 0, MAX_STATES)) {
            return INVALID_ARGUMENT;
        }
        return zetaCoefficient(matrix, power);
    }

    public int radiusTenths() {
        int tenths = 0;
        // The radius is at most 54, so that ten binary digits of its tenths are enough.
        for (int digit = 9; digit >= 0; digit--) {
            int candidate = tenths + (1 << digit);
            if (!radiusIsBelow(candidate)) {
                tenths = candidate;
            }
        }
        return tenths;
    }

    public long determinant() {
        minors.take(matrix, 1, -1);
        return minors.ofAll();
    }

    public long factor(int k) {
        if (!isWithin(k, 1, matrix.order())) {
            return INVALID_ARGUMENT;
        }
        return groupFactor(matrix, k);
    }

    // ---- splitting and merging

    public int setShare(int state, int share) {
        if (!isWithin(state, 0, MAX_STATES - 1) || !isWithin(share, 0, MAX_ENTRY)) {
            return INVALID_ARGUMENT;
        }
        int previous = shares[state];
        shares[state] = share;
        return previous;
    }

    public int outSplit(int state) {
        return split(state, false);
    }

    public int inSplit(int state) {
        return split(state, true);
    }

    public int outMerge(int first, int second) {
        return merge(first, second, false);
    }

    public int inMerge(int first, int second) {
        return merge(first, second, true);
    }

    public int coreSize() {
        return coreOrder(matrix);
    }

    // ---- comparing

    public int save() {
        saved.copy(matrix);
        return matrix.order();
    }

    public int swapSaved() {
        history.remember(matrix, saved);
        draft.copy(matrix);
        matrix.copy(saved);
        saved.copy(draft);
        return matrix.order();
    }

    public int differences() {
        int mask = 0;
        if (polynomialsDiffer()) {
            mask |= 1;
        }
        if (groupsDiffer()) {
            mask |= 2;
        }
        if (coreOrder(matrix) != coreOrder(saved)) {
            mask |= 4;
        }
        return mask;
    }

    public int undo() {
        if (history.count() == 0) {
            return NOT_POSSIBLE;
        }
        history.restore(matrix, saved);
        return history.count();
    }

    // ---- what the calls are made of

    private static boolean isWithin(int value, int least, int greatest) {
        return value >= least && value <= greatest;
    }

    /** Of two numbers that are not negative. */
    private static long greatestCommonDivisor(long first, long second) {
        long divisor = first;
        long rest = second;
        // Euclid's remainders fall below half in every two steps: 128 are enough for any long.
        for (int step = 0; step < 128 && rest != 0; step++) {
            long next = divisor % rest;
            divisor = rest;
            rest = next;
        }
        return divisor;
    }

    private long closedPaths(int length) {
        long sum = 0;
        for (int state = 0; state < matrix.order(); state++) {
            walks.beginAt(state);
            walks.go(matrix, length);
            sum += walks.endingAt(state);
        }
        return sum;
    }

    private long pointsOfLesserPeriods(int period) {
        long sum = 0;
        for (int lesser = 1; lesser < period; lesser++) {
            if (period % lesser == 0) {
                sum += leastPeriodPoints[lesser];
            }
        }
        return sum;
    }

    private long zetaCoefficient(Matrix source, int power) {
        minors.take(source, 0, 1);
        long sum = minors.principalSum(power);
        return power % 2 == 0 ? sum : -sum;
    }

    private boolean radiusIsBelow(int tenths) {
        // Ten times (x * I - A), which keeps the signs of all minors and has no fractions.
        minors.take(matrix, tenths, -10);
        return minors.leadingArePositive();
    }

    private long groupFactor(Matrix source, int k) {
        minors.take(source, 1, -1);
        long divisor = minors.commonDivisor(k);
        long previous = minors.commonDivisor(k - 1);
        return previous == 0 ? 0 : divisor / previous;
    }

    private int split(int state, boolean incoming) {
        if (!matrix.has(state)) {
            return INVALID_ARGUMENT;
        }
        load(draft, matrix, incoming);
        for (int other = 0; other < MAX_STATES; other++) {
            if (draft.has(other) && shares[other] > draft.cell(state, other)) {
                return NOT_POSSIBLE;
            }
        }
        if (matrix.order() == MAX_STATES) {
            return LIMIT_REACHED;
        }
        draft.splitRow(state, shares);
        history.remember(matrix, saved);
        load(matrix, draft, incoming);
        return matrix.order();
    }

    private int merge(int first, int second, boolean incoming) {
        if (!matrix.has(first) || !matrix.has(second) || first == second) {
            return INVALID_ARGUMENT;
        }
        load(draft, matrix, incoming);
        if (!draft.columnsAreEqual(first, second)) {
            return NOT_POSSIBLE;
        }
        draft.mergeRows(Math.min(first, second), Math.max(first, second));
        if (draft.greatestCell() > MAX_ENTRY) {
            return LIMIT_REACHED;
        }
        history.remember(matrix, saved);
        load(matrix, draft, incoming);
        return matrix.order();
    }

    /** What is done to rows and columns is done to columns and rows when the matrix is turned before and after. */
    private static void load(Matrix target, Matrix source, boolean turned) {
        target.copy(source);
        if (turned) {
            target.transpose();
        }
    }

    private int coreOrder(Matrix source) {
        draft.copy(source);
        boolean merged = true;
        for (int round = 1; round < MAX_STATES && merged; round++) {
            merged = draft.mergeSomeEqualColumns();
        }
        return draft.order();
    }

    private boolean polynomialsDiffer() {
        for (int power = 1; power <= MAX_STATES; power++) {
            if (zetaCoefficient(matrix, power) != zetaCoefficient(saved, power)) {
                return true;
            }
        }
        return false;
    }

    /**
     * Each factor divides the next one, so that the factors 1 come first and the lists without them
     * are equal just when the factors are equal from the last one down, with 1 for those that are missing.
     */
    private boolean groupsDiffer() {
        for (int back = 0; back < MAX_STATES; back++) {
            if (factorFromLast(matrix, back) != factorFromLast(saved, back)) {
                return true;
            }
        }
        return false;
    }

    private long factorFromLast(Matrix source, int back) {
        int k = source.order() - back;
        return k < 1 ? 1 : groupFactor(source, k);
    }

    /** A square matrix. Its rows lie six cells apart, whatever its order is. */
    private static final class Matrix {
        private int order = 1;
        private final int[] cells = new int[MAX_STATES * MAX_STATES];

        int order() {
            return order;
        }

        boolean has(int state) {
            return state >= 0 && state < order;
        }

        int cell(int row, int column) {
            return has(row) && has(column) ? cells[row * MAX_STATES + column] : 0;
        }

        void put(int row, int column, int value) {
            if (has(row) && has(column)) {
                cells[row * MAX_STATES + column] = value;
            }
        }

        void fill(int newOrder, int value) {
            resize(newOrder);
            for (int row = 0; row < order; row++) {
                for (int column = 0; column < order; column++) {
                    put(row, column, value);
                }
            }
        }

        void copy(Matrix source) {
            resize(source.order);
            for (int row = 0; row < order; row++) {
                for (int column = 0; column < order; column++) {
                    put(row, column, source.cell(row, column));
                }
            }
        }

        void transpose() {
            for (int row = 0; row < order; row++) {
                for (int column = 0; column < row; column++) {
                    int kept = cell(row, column);
                    put(row, column, cell(column, row));
                    put(column, row, kept);
                }
            }
        }

        int greatestCell() {
            int greatest = 0;
            for (int row = 0; row < order; row++) {
                for (int column = 0; column < order; column++) {
                    greatest = Math.max(greatest, cell(row, column));
                }
            }
            return greatest;
        }

        void remove(int state) {
            for (int row = 0; row < order - 1; row++) {
                for (int column = 0; column < order - 1; column++) {
                    int fromRow = row < state ? row : row + 1;
                    int fromColumn = column < state ? column : column + 1;
                    put(row, column, cell(fromRow, fromColumn));
                }
            }
            resize(order - 1);
        }

        void splitRow(int state, int[] parts) {
            int added = order;
            resize(order + 1);
            for (int column = 0; column < added && column < parts.length; column++) {
                put(state, column, cell(state, column) - parts[column]);
                put(added, column, parts[column]);
            }
            for (int row = 0; row < order; row++) {
                put(row, added, cell(row, state));
            }
        }

        boolean columnsAreEqual(int first, int second) {
            for (int row = 0; row < order; row++) {
                if (cell(row, first) != cell(row, second)) {
                    return false;
                }
            }
            return true;
        }

        void mergeRows(int lower, int higher) {
            for (int column = 0; column < order; column++) {
                put(lower, column, cell(lower, column) + cell(higher, column));
            }
            remove(higher);
        }

        boolean mergeSomeEqualColumns() {
            for (int higher = 1; higher < order; higher++) {
                for (int lower = 0; lower < higher; lower++) {
                    if (columnsAreEqual(lower, higher)) {
                        mergeRows(lower, higher);
                        return true;
                    }
                }
            }
            return false;
        }

        private void resize(int newOrder) {
            order = Math.max(1, Math.min(newOrder, MAX_STATES));
        }
    }

    /** The matrix and the saved matrix as they were before each of the last changes, in a ring. */
    private static final class History {
        private final Matrix[] matrices = new Matrix[MAX_CHANGES];
        private final Matrix[] savedOnes = new Matrix[MAX_CHANGES];
        private int newest = 0;
        private int count = 0;

        History() {
            for (int place = 0; place < MAX_CHANGES; place++) {
                matrices[place] = new Matrix();
                savedOnes[place] = new Matrix();
            }
        }

        int count() {
            return count;
        }

        void remember(Matrix matrix, Matrix saved) {
            newest = (newest + 1) % MAX_CHANGES;
            count = Math.min(count + 1, MAX_CHANGES);
            Matrix keptMatrix = matrices[newest];
            Matrix keptSaved = savedOnes[newest];
            if (keptMatrix != null && keptSaved != null) {
                keptMatrix.copy(matrix);
                keptSaved.copy(saved);
            }
        }

        void restore(Matrix matrix, Matrix saved) {
            Matrix keptMatrix = matrices[newest];
            Matrix keptSaved = savedOnes[newest];
            if (count > 0 && keptMatrix != null && keptSaved != null) {
                matrix.copy(keptMatrix);
                saved.copy(keptSaved);
                newest = (newest + MAX_CHANGES - 1) % MAX_CHANGES;
                count--;
            }
        }
    }

    /** Sets of states, as bit masks, and how the edges of a matrix join them. */
    private static final class Graph {

        static int allStates(Matrix matrix) {
            return (1 << matrix.order()) - 1;
        }

        static int statesAfter(Matrix matrix, int set) {
            int after = 0;
            for (int from = 0; from < matrix.order(); from++) {
                if ((set >> from & 1) != 0) {
                    after |= directlyAfter(matrix, from);
                }
            }
            return after;
        }

        static int statesBefore(Matrix matrix, int set) {
            int before = 0;
            for (int from = 0; from < matrix.order(); from++) {
                if ((directlyAfter(matrix, from) & set) != 0) {
                    before |= 1 << from;
                }
            }
            return before;
        }

        /** A path of as many edges as there are states comes twice to some state, and may go round as often as it likes. */
        static int essentialSet(Matrix matrix) {
            int ending = allStates(matrix);
            int beginning = allStates(matrix);
            for (int length = 1; length <= matrix.order(); length++) {
                ending = statesAfter(matrix, ending);
                beginning = statesBefore(matrix, beginning);
            }
            return ending & beginning;
        }

        static int lowestOfComponent(Matrix matrix, int state) {
            int component = componentSet(matrix, state);
            int lowest = 0;
            while (lowest < state && (component >> lowest & 1) == 0) {
                lowest++;
            }
            return lowest;
        }

        static int componentsBelow(Matrix matrix, int bound) {
            int components = 0;
            for (int state = 0; state < bound; state++) {
                int lowerStates = (1 << state) - 1;
                if ((componentSet(matrix, state) & lowerStates) == 0) {
                    components++;
                }
            }
            return components;
        }

        /**
         * Returns 0 if no path returns. With N states, a way to some cycle and back takes at most 2N edges
         * and the cycle at most N, so that longer returns add nothing to the divisor.
         */
        static int divisorOfReturns(Matrix matrix, int state) {
            int reached = 1 << state;
            long divisor = 0;
            for (int length = 1; length <= 3 * matrix.order(); length++) {
                reached = statesAfter(matrix, reached);
                if ((reached >> state & 1) != 0) {
                    divisor = greatestCommonDivisor(divisor, length);
                }
            }
            return (int) divisor;
        }

        private static int componentSet(Matrix matrix, int state) {
            int reached = 1 << state;
            int reaching = 1 << state;
            for (int length = 1; length < matrix.order(); length++) {
                reached |= statesAfter(matrix, reached);
                reaching |= statesBefore(matrix, reaching);
            }
            return reached & reaching;
        }

        private static int directlyAfter(Matrix matrix, int from) {
            int after = 0;
            for (int to = 0; to < matrix.order(); to++) {
                if (matrix.cell(from, to) != 0) {
                    after |= 1 << to;
                }
            }
            return after;
        }
    }

    /** How many paths end at each state. Not even six times 54 to the 8th leaves the range of long. */
    private static final class Walks {
        private final long[] ending = new long[MAX_STATES];
        private final long[] next = new long[MAX_STATES];

        void beginAt(int state) {
            for (int other = 0; other < MAX_STATES; other++) {
                ending[other] = other == state ? 1 : 0;
            }
        }

        void beginEverywhere() {
            for (int state = 0; state < MAX_STATES; state++) {
                ending[state] = 1;
            }
        }

        void go(Matrix matrix, int length) {
            for (int edge = 0; edge < length; edge++) {
                for (int to = 0; to < MAX_STATES; to++) {
                    next[to] = lengthenedTo(matrix, to);
                }
                System.arraycopy(next, 0, ending, 0, MAX_STATES);
            }
        }

        long endingAt(int state) {
            return state >= 0 && state < MAX_STATES ? ending[state] : 0;
        }

        long endingAnywhere() {
            long sum = 0;
            for (int state = 0; state < MAX_STATES; state++) {
                sum += ending[state];
            }
            return sum;
        }

        private long lengthenedTo(Matrix matrix, int to) {
            long sum = 0;
            // The cells beyond the matrix's order are read as 0.
            for (int from = 0; from < MAX_STATES; from++) {
                sum += ending[from] * matrix.cell(from, to);
            }
            return sum;
        }
    }

    /** The minors of a matrix that is taken first. Sets of rows and of columns are bit masks. */
    private static final class Minors {
        private int order = 1;
        private final long[] cells = new long[MAX_STATES * MAX_STATES];
        private final int[] chosenRows = new int[MAX_STATES];
        private final long[] minorOf = new long[1 << MAX_STATES];

        /** Takes diagonal * I + times * A. */
        void take(Matrix matrix, long diagonal, long times) {
            order = matrix.order();
            for (int row = 0; row < MAX_STATES; row++) {
                for (int column = 0; column < MAX_STATES; column++) {
                    long ofDiagonal = row == column ? diagonal : 0;
                    cells[row * MAX_STATES + column] = ofDiagonal + times * matrix.cell(row, column);
                }
            }
        }

        long ofAll() {
            int all = (1 << order) - 1;
            expand(all, all);
            return minorOf[all];
        }

        boolean leadingArePositive() {
            int all = (1 << order) - 1;
            expand(all, all);
            for (int k = 1; k <= order; k++) {
                if (minorOf[(1 << k) - 1] <= 0) {
                    return false;
                }
            }
            return true;
        }

        long principalSum(int k) {
            long sum = 0;
            for (int rows = 0; rows < 1 << order; rows++) {
                if (Integer.bitCount(rows) == k) {
                    expand(rows, rows);
                    sum += minorOf[rows];
                }
            }
            return sum;
        }

        long commonDivisor(int k) {
            int all = (1 << order) - 1;
            long divisor = 0;
            for (int rows = 0; rows < 1 << order && divisor != 1; rows++) {
                if (Integer.bitCount(rows) == k) {
                    expand(rows, all);
                    divisor = divisorWithMinors(divisor, k);
                }
            }
            return divisor;
        }

        private long divisorWithMinors(long divisor, int k) {
            long common = divisor;
            for (int columns = 0; columns < 1 << order; columns++) {
                if (Integer.bitCount(columns) == k) {
                    common = greatestCommonDivisor(common, Math.abs(minorOf[columns]));
                }
            }
            return common;
        }

        /**
         * Finds, for each set of k of the columns, the minor of these columns and the first k of the rows.
         * The sets come in ascending order, so that a set's parts, which its expansion needs, come before it.
         */
        private void expand(int rows, int columns) {
            int rowCount = chooseRows(rows);
            minorOf[0] = 1;
            for (int set = 1; set < 1 << order; set++) {
                int k = Integer.bitCount(set);
                boolean isWanted = (set & columns) == set && k <= rowCount;
                minorOf[set] = isWanted ? expandedByLastRow(chosenRows[k - 1], set) : 0;
            }
        }

        private int chooseRows(int rows) {
            int count = 0;
            for (int row = 0; row < order && count < MAX_STATES; row++) {
                if ((rows >> row & 1) != 0) {
                    chosenRows[count] = row;
                    count++;
                }
            }
            return count;
        }

        private long expandedByLastRow(int row, int columns) {
            long sum = 0;
            int sign = 1;
            // The sign of the last row's last cell is plus; from there it changes from column to column.
            for (int column = order - 1; column >= 0; column--) {
                if ((columns >> column & 1) != 0) {
                    sum += sign * cells[row * MAX_STATES + column] * minorOf[columns & ~(1 << column)];
                    sign = -sign;
                }
            }
            return sum;
        }
    }
}
