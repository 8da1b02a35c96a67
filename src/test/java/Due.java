import java.util.stream.IntStream;

/** Counts and prints the answers that are not due; each test's main method ends with end(). */
final class Due {

    static final int INVALID = ShiftWorkbench.INVALID_ARGUMENT;
    static final int IMPOSSIBLE = ShiftWorkbench.NOT_POSSIBLE;
    static final int LIMIT = ShiftWorkbench.LIMIT_REACHED;
    static final int NOT_FOUND = ShiftWorkbench.NOT_FOUND;

    /**
     * Numbers far off, and those that a slip would bring back: 32 and 64 shift a bit by nothing, 65536 is 0 as a
     * short, and six times 715827883 is 2 when it has wrapped around.
     */
    private static final int[] FAR = {
        10, 31, 32, 36, 64, 100, 256, 65536, 65537, 715827883, 1431655766, Integer.MAX_VALUE - 1, Integer.MAX_VALUE,
        -2, -6, -7, -31, -32, -36, -64, -256, -65536, -715827882, -1431655765, Integer.MIN_VALUE + 1, Integer.MIN_VALUE};

    private static int wrong = 0;

    private Due() {
    }

    static void is(String call, long got, long want) {
        if (got != want) {
            wrong++;
            System.out.println(call + " answered " + got + ", due is " + want);
        }
    }

    static void same(String what, String got, String want) {
        if (!got.equals(want)) {
            wrong++;
            System.out.println(what + " is as due, but " + got + "\nin place of" + want);
        }
    }

    static void matrix(String where, ShiftWorkbench bench, int[]... rows) {
        is(where + ": size()", bench.size(), rows.length);
        for (int row = 0; row < rows.length; row++) {
            for (int column = 0; column < rows.length; column++) {
                is(where + ": entry(" + row + ", " + column + ")", bench.entry(row, column), rows[row][column]);
            }
        }
    }

    /** One below, one above, and numbers far off. */
    static int[] outside(int least, int greatest) {
        IntStream near = IntStream.of(least - 1, greatest + 1);
        return IntStream.concat(near, IntStream.of(FAR))
                .filter(number -> number < least || number > greatest).distinct().toArray();
    }

    static ShiftWorkbench bench(int[]... rows) {
        ShiftWorkbench bench = new ShiftWorkbench();
        lay(bench, rows);
        return bench;
    }

    static void lay(ShiftWorkbench bench, int[]... rows) {
        bench.reset(rows.length);
        for (int row = 0; row < rows.length; row++) {
            for (int column = 0; column < rows.length; column++) {
                if (rows[row][column] != 0) {
                    bench.setEntry(row, column, rows[row][column]);
                }
            }
        }
    }

    static void share(ShiftWorkbench bench, int... shares) {
        for (int state = 0; state < shares.length; state++) {
            bench.setShare(state, shares[state]);
        }
    }

    static int[] row(int... entries) {
        return entries;
    }

    static int[][] full(int states, int value) {
        int[][] rows = new int[states][states];
        for (int[] row : rows) {
            java.util.Arrays.fill(row, value);
        }
        return rows;
    }

    static int[][] diagonal(int states, int value) {
        int[][] rows = new int[states][states];
        for (int state = 0; state < states; state++) {
            rows[state][state] = value;
        }
        return rows;
    }

    /** One edge from each state to the next one, and from the last one to the first. */
    static int[][] ring(int states) {
        int[][] rows = new int[states][states];
        for (int state = 0; state < states; state++) {
            rows[state][(state + 1) % states] = 1;
        }
        return rows;
    }

    /** One edge from each state to the next one, and none from the last. */
    static int[][] chain(int states) {
        int[][] rows = ring(states);
        rows[states - 1][0] = 0;
        return rows;
    }

    static void end() {
        if (wrong != 0) {
            System.out.println(wrong + " answers are not as due");
            System.exit(1);
        }
    }
}
