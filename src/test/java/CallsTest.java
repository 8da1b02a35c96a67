import java.util.List;
import java.util.function.Consumer;
import java.util.function.ToLongFunction;

/** "An object is used for at most 512 calls": the last of them is answered like the first, and questions change nothing. */
public final class CallsTest {

    private static final int CALLS = 512;

    private record Call(String name, ToLongFunction<ShiftWorkbench> call, long answer) {
    }

    /** What is due on a new object. */
    private static final List<Call> QUESTIONS = List.of(
            new Call("entry(1, 0)", x -> x.entry(1, 0), 1),
            new Call("entry(2, 0)", x -> x.entry(2, 0), Due.INVALID),
            new Call("size()", ShiftWorkbench::size, 2),
            new Call("essentialStates()", ShiftWorkbench::essentialStates, 3),
            new Call("paths(0, 1, 8)", x -> x.paths(0, 1, 8), 128),
            new Call("componentCount()", ShiftWorkbench::componentCount, 1),
            new Call("componentOf(1)", x -> x.componentOf(1), 0),
            new Call("isIrreducible()", ShiftWorkbench::isIrreducible, 1),
            new Call("periodOf(1)", x -> x.periodOf(1), 1),
            new Call("blocks(8)", x -> x.blocks(8), 512),
            new Call("periodicPoints(8)", x -> x.periodicPoints(8), 256),
            new Call("orbits(8)", x -> x.orbits(8), 30),
            new Call("coefficient(1)", x -> x.coefficient(1), -2),
            new Call("radiusTenths()", ShiftWorkbench::radiusTenths, 20),
            new Call("determinant()", ShiftWorkbench::determinant, -1),
            new Call("factor(2)", x -> x.factor(2), 1),
            new Call("coreSize()", ShiftWorkbench::coreSize, 1),
            new Call("differences()", ShiftWorkbench::differences, 0),
            new Call("undo()", ShiftWorkbench::undo, Due.IMPOSSIBLE));

    private static final List<Call> OTHERS = List.of(
            new Call("reset(3)", x -> x.reset(3), 2),
            new Call("setEntry(0, 1, 5)", x -> x.setEntry(0, 1, 5), 1),
            new Call("trim()", ShiftWorkbench::trim, 0),
            new Call("setShare(5, 9)", x -> x.setShare(5, 9), 0),
            new Call("outSplit(1)", x -> x.outSplit(1), 3),
            new Call("inSplit(1)", x -> x.inSplit(1), 3),
            new Call("outMerge(0, 1)", x -> x.outMerge(0, 1), 1),
            new Call("inMerge(1, 0)", x -> x.inMerge(1, 0), 1),
            new Call("save()", ShiftWorkbench::save, 2),
            new Call("swapSaved()", ShiftWorkbench::swapSaved, 2));

    public static void main(String[] args) {
        for (Call question : QUESTIONS) {
            allCallsAreTheSame(question);
            isTheLastCall(question);
            changesNothing(question);
        }
        for (Call other : OTHERS) {
            isTheLastCall(other);
        }
        lastUndo();
        allCallsAreChanges();
        splitsAndMergesToTheEnd();
        allCallsAreOfTheDearestKind();
        Due.end();
    }

    private static void allCallsAreTheSame(Call question) {
        ShiftWorkbench x = new ShiftWorkbench();
        for (int call = 1; call <= CALLS; call++) {
            Due.is(question.name + ", call " + call, question.call.applyAsLong(x), question.answer);
        }
    }

    /** After questions of every kind in turn, none of which leaves anything behind. */
    private static void isTheLastCall(Call last) {
        ShiftWorkbench x = new ShiftWorkbench();
        for (int call = 1; call < CALLS; call++) {
            Call question = QUESTIONS.get(call % QUESTIONS.size());
            Due.is(question.name + ", call " + call, question.call.applyAsLong(x), question.answer);
        }
        Due.is(last.name + " as the last call", last.call.applyAsLong(x), last.answer);
    }

    private static void changesNothing(Call question) {
        if (question.name.equals("undo()")) {
            return;
        }
        List<Consumer<ShiftWorkbench>> before = List.of(
                x -> { },
                x -> {
                    x.setEntry(1, 1, 0);
                    x.save();
                    x.setShare(0, 1);
                    x.outSplit(0);
                    x.reset(5);
                    x.swapSaved();
                    x.setShare(3, 8);
                    x.inSplit(0);
                    x.inSplit(1);
                    x.undo();
                });
        for (Consumer<ShiftWorkbench> calls : before) {
            Due.same("nothing after " + question.name,
                    Seen.after(calls.andThen(question.call::applyAsLong)), Seen.after(calls));
        }
    }

    private static void lastUndo() {
        ShiftWorkbench x = new ShiftWorkbench();
        for (int call = 1; call < CALLS; call++) {
            Due.is("setEntry() as call " + call, x.setEntry(1, 1, call % 10), (call - 1) % 10 + (call == 1 ? 1 : 0));
        }
        Due.is("undo() as the last call", x.undo(), 3);
        Due.is("entry(1, 1) after that", x.entry(1, 1), (CALLS - 2) % 10);
    }

    private static void allCallsAreChanges() {
        ShiftWorkbench x = new ShiftWorkbench();
        int size = 2;
        for (int call = 1; call <= CALLS; call++) {
            int next = 1 + call * 5 % 6;
            Due.is("reset() as call " + call, x.reset(next), size);
            size = next;
        }
        ShiftWorkbench y = Due.bench(Due.ring(6));
        for (int call = 1; call < CALLS - 7; call += 2) {
            Due.is("swapSaved() to the first matrix", y.swapSaved(), 2);
            Due.is("swapSaved() to the ring", y.swapSaved(), 6);
        }
        Due.matrix("after many swaps", y, Due.ring(6));
    }

    private static void splitsAndMergesToTheEnd() {
        ShiftWorkbench x = new ShiftWorkbench();
        for (int call = 0; call < CALLS; call += 8) {
            for (int states = 3; states <= 6; states++) {
                Due.is("outSplit(0) to " + states + " states", x.outSplit(0), states);
            }
            for (int states = 5; states >= 2; states--) {
                Due.is("outMerge(0, " + states + ")", x.outMerge(0, states), states);
            }
        }
        Due.matrix("after splits and merges", x, Due.full(2, 1));
    }

    /** The factors of six states take the most minors. */
    private static void allCallsAreOfTheDearestKind() {
        ShiftWorkbench x = Due.bench(Due.diagonal(6, 9));
        x.save();
        for (int call = 8; call < CALLS; call++) {
            Due.is("differences() as call " + call, x.differences(), 0);
        }
        Due.is("factor(6) as the last call", x.factor(6), 8);
    }
}
