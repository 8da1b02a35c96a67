import java.util.function.Consumer;

/** All that can be seen of an object after some calls, told as a text, so that two such objects can be compared. */
final class Seen {

    /** One more than there can be, so that the answer when there is none is seen, too. */
    private static final int UNDOS = 5;

    private Seen() {
    }

    /** Looking at the saved matrix is itself a change, so that each depth of undoing has an object of its own. */
    static String after(Consumer<ShiftWorkbench> calls) {
        StringBuilder seen = new StringBuilder();
        for (int undos = 0; undos <= UNDOS; undos++) {
            ShiftWorkbench x = new ShiftWorkbench();
            calls.accept(x);
            seen.append("\nafter ").append(undos).append(" undos:");
            for (int undo = 0; undo < undos; undo++) {
                seen.append(' ').append(x.undo());
            }
            tellMatrix(x, seen);
            tellShares(x, seen);
            x.swapSaved();
            tellMatrix(x, seen);
        }
        return seen.toString();
    }

    private static void tellMatrix(ShiftWorkbench x, StringBuilder seen) {
        seen.append(" [").append(x.size()).append(':');
        for (int row = 0; row < x.size(); row++) {
            for (int column = 0; column < x.size(); column++) {
                seen.append(' ').append(x.entry(row, column));
            }
        }
        seen.append(']');
    }

    private static void tellShares(ShiftWorkbench x, StringBuilder seen) {
        seen.append(" shares");
        for (int state = 0; state < 6; state++) {
            int share = x.setShare(state, 0);
            x.setShare(state, share);
            seen.append(' ').append(share);
        }
    }
}
