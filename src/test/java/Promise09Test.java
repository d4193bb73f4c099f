import java.util.Set;
import java.util.TreeSet;

/** Each sentence of promise 9 that names a boundary case. */
public final class Promise09Test {
    private static final int NOT_RUN = NonogramSolver.NOT_RUN;
    private static final int EMPTY = NonogramSolver.EMPTY;

    private Promise09Test() {
    }

    public static void main(String[] args) {
        Sentence.test("`propagateStatus()` answers the status of the current propagation result: NOT_RUN, CONTRADICTION,"
            + " COMPLETE or STALLED.", Promise09Test::answersEveryStatus);
        Sentence.test("It is NOT_RUN on a fresh object", Promise09Test::freshIsNotRun);
        Sentence.test("and after every call that reset both results", Promise09Test::resetIsNotRun);
        Sentence.test("until the next `propagate()`.", Promise09Test::notRunUntilPropagate);
        Sentence.test("It changes nothing.", Promise09Test::changesNothing);
        Sentence.test("A call that answers `false` or `INVALID` changes nothing. (the status)",
            Promise09Test::refusedCallsKeepTheStatus);
        Check.end();
    }

    private static void answersEveryStatus() {
        NonogramSolver x = Puzzles.puzzle("1 1", "1 1");
        Check.due("before propagate()", x.propagateStatus(), NOT_RUN);
        x.propagate();
        Check.due("with open cells", x.propagateStatus(), NonogramSolver.STALLED);
        x.setGiven(0, 0, EMPTY);
        x.propagate();
        Check.due("with no open cell", x.propagateStatus(), NonogramSolver.COMPLETE);
        x.setGiven(1, 0, EMPTY);
        x.propagate();
        Check.due("with no filling", x.propagateStatus(), NonogramSolver.CONTRADICTION);
        Set<Integer> seen = new TreeSet<>();
        for (States.State state : States.all()) {
            seen.add(state.make().propagateStatus());
        }
        Check.due("statuses that the states of the tests have", seen.toString(), "[3, 4, 5, 6]");
    }

    private static void freshIsNotRun() {
        for (int rows = 0; rows <= 9; rows++) {
            for (int cols = 0; cols <= 9; cols++) {
                Check.due("fresh (" + rows + ", " + cols + ")", new NonogramSolver(rows, cols).propagateStatus(), NOT_RUN);
            }
        }
    }

    /** The calls that answer true, also where they change nothing but the results. */
    private static void resetIsNotRun() {
        for (States.State state : States.all()) {
            NonogramSolver x = state.make();
            x.propagate();
            x.setGiven(0, 0, x.given(0, 0));
            Check.due(state.name + ": after setGiven", x.propagateStatus(), NOT_RUN);
            x.propagate();
            x.clearLine(NonogramSolver.ROW, x.rows() - 1);
            Check.due(state.name + ": after clearLine", x.propagateStatus(), NOT_RUN);
            x.propagate();
            x.clearLine(NonogramSolver.ROW, x.rows() - 1);
            Check.due(state.name + ": after clearLine of an empty clue", x.propagateStatus(), NOT_RUN);
            x.propagate();
            x.addNumber(NonogramSolver.ROW, x.rows() - 1, x.cols());
            Check.due(state.name + ": after addNumber", x.propagateStatus(), NOT_RUN);
        }
    }

    private static void notRunUntilPropagate() {
        for (States.State state : States.all()) {
            NonogramSolver x = state.make();
            x.setGiven(0, 0, EMPTY);
            x.solve();
            Check.due(state.name + ": after setGiven and solve()", x.propagateStatus(), NOT_RUN);
            x.addNumber(-1, 0, 1);
            x.clearLine(NonogramSolver.ROW, x.rows());
            x.setGiven(0, 0, 3);
            Check.due(state.name + ": after refused calls", x.propagateStatus(), NOT_RUN);
            int answer = x.propagate();
            Check.due(state.name + ": after propagate()", x.propagateStatus(), answer);
            Check.due(state.name + ": propagate() answers NOT_RUN", answer == NOT_RUN, false);
            x.solve();
            Check.due(state.name + ": after propagate() and solve()", x.propagateStatus(), answer);
        }
    }

    private static void changesNothing() {
        for (States.State state : States.all()) {
            state.answers("propagateStatus()", NonogramSolver::propagateStatus, state.make().propagateStatus());
        }
    }

    private static void refusedCallsKeepTheStatus() {
        for (States.State state : States.all()) {
            NonogramSolver x = state.make();
            int status = x.propagateStatus();
            x.addNumber(2, 0, 1);
            x.addNumber(NonogramSolver.ROW, 0, 0);
            x.addNumber(NonogramSolver.COL, x.cols(), 1);
            x.clearLine(-1, 0);
            x.clearLine(NonogramSolver.COL, -1);
            x.setGiven(x.rows(), 0, EMPTY);
            x.setGiven(0, 0, NonogramSolver.INVALID);
            x.known(-1, 0);
            x.given(0, x.cols());
            x.solutionCell(2, 0, 0);
            x.clueCount(2, 0);
            x.clueNumber(NonogramSolver.ROW, 0, 4);
            Check.due(state.name + ": after refused calls", x.propagateStatus(), status);
        }
    }
}
