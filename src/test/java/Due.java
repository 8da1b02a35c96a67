/** Counts and prints the answers that are not due; each test's main method ends with end(). */
final class Due {

    static final int INVALID = ShiftWorkbench.INVALID_ARGUMENT;
    static final int IMPOSSIBLE = ShiftWorkbench.NOT_POSSIBLE;
    static final int LIMIT = ShiftWorkbench.LIMIT_REACHED;
    static final int NOT_FOUND = ShiftWorkbench.NOT_FOUND;

    /** Numbers that are no state of any matrix. */
    static final int[] NO_STATES = {-1, 6, 7, 31, 32, 36, -6, 100, Integer.MIN_VALUE, Integer.MAX_VALUE};

    private static int wrong = 0;

    private Due() {
    }

    static void is(String call, long got, long want) {
        if (got != want) {
            wrong++;
            System.out.println(call + " answered " + got + ", due is " + want);
        }
    }

    static void matrix(String where, ShiftWorkbench bench, int[]... rows) {
        is(where + ": size()", bench.size(), rows.length);
        for (int row = 0; row < rows.length; row++) {
            for (int column = 0; column < rows.length; column++) {
                is(where + ": entry(" + row + ", " + column + ")", bench.entry(row, column), rows[row][column]);
            }
        }
    }

    static ShiftWorkbench bench(int[]... rows) {
        ShiftWorkbench bench = new ShiftWorkbench();
        lay(bench, rows);
        return bench;
    }

    static void lay(ShiftWorkbench bench, int[]... rows) {
        bench.reset(rows.length);
        for (int row = 0; row < rows.length; row++) {
            for (int column = 0; column < rows.length; column++) {
                if (rows[row][column] != 0) {
                    bench.setEntry(row, column, rows[row][column]);
                }
            }
        }
    }

    static int[] row(int... entries) {
        return entries;
    }

    static int[][] full(int states, int value) {
        int[][] rows = new int[states][states];
        for (int[] row : rows) {
            java.util.Arrays.fill(row, value);
        }
        return rows;
    }

    static void end() {
        if (wrong != 0) {
            System.out.println(wrong + " answers are not as due");
            System.exit(1);
        }
    }
}
