import java.util.Set;
import java.util.TreeSet;

/** Each sentence of promise 12 that names a boundary case. */
public final class Promise12Test {
    private static final int NOT_RUN = NonogramSolver.NOT_RUN;
    private static final int EMPTY = NonogramSolver.EMPTY;

    private Promise12Test() {
    }

    public static void main(String[] args) {
        Sentence.test("`verdict()` answers the current verdict: NOT_RUN, NO_SOLUTION, UNIQUE or MULTIPLE.",
            Promise12Test::answersEveryVerdict);
        Sentence.test("It is NOT_RUN on a fresh object", Promise12Test::freshIsNotRun);
        Sentence.test("and after every call that reset both results", Promise12Test::resetIsNotRun);
        Sentence.test("until the next `solve()`.", Promise12Test::notRunUntilSolve);
        Sentence.test("It changes nothing.", Promise12Test::changesNothing);
        Sentence.test("A call that answers `false` or `INVALID` changes nothing. (the verdict)",
            Promise12Test::refusedCallsKeepTheVerdict);
        Check.end();
    }

    private static void answersEveryVerdict() {
        NonogramSolver x = Puzzles.puzzle("1 1", "1 1");
        Check.due("before solve()", x.verdict(), NOT_RUN);
        x.solve();
        Check.due("with two solutions", x.verdict(), NonogramSolver.MULTIPLE);
        x.setGiven(0, 0, EMPTY);
        x.solve();
        Check.due("with one solution", x.verdict(), NonogramSolver.UNIQUE);
        x.setGiven(1, 0, EMPTY);
        x.solve();
        Check.due("with no solution", x.verdict(), NonogramSolver.NO_SOLUTION);
        Set<Integer> seen = new TreeSet<>();
        for (States.State state : States.all()) {
            seen.add(state.make().verdict());
        }
        Check.due("verdicts that the states of the tests have", seen.toString(), "[0, 1, 2, 3]");
    }

    private static void freshIsNotRun() {
        for (int rows = 0; rows <= 9; rows++) {
            for (int cols = 0; cols <= 9; cols++) {
                Check.due("fresh (" + rows + ", " + cols + ")", new NonogramSolver(rows, cols).verdict(), NOT_RUN);
            }
        }
    }

    /** The calls that answer true, also where they change nothing but the results. */
    private static void resetIsNotRun() {
        for (States.State state : States.all()) {
            NonogramSolver x = state.make();
            x.solve();
            x.setGiven(0, 0, x.given(0, 0));
            Check.due(state.name + ": after setGiven", x.verdict(), NOT_RUN);
            x.solve();
            x.clearLine(NonogramSolver.COL, x.cols() - 1);
            Check.due(state.name + ": after clearLine", x.verdict(), NOT_RUN);
            x.solve();
            x.clearLine(NonogramSolver.COL, x.cols() - 1);
            Check.due(state.name + ": after clearLine of an empty clue", x.verdict(), NOT_RUN);
            x.solve();
            x.addNumber(NonogramSolver.COL, x.cols() - 1, x.rows());
            Check.due(state.name + ": after addNumber", x.verdict(), NOT_RUN);
        }
    }

    private static void notRunUntilSolve() {
        for (States.State state : States.all()) {
            NonogramSolver x = state.make();
            x.setGiven(0, 0, EMPTY);
            x.propagate();
            Check.due(state.name + ": after setGiven and propagate()", x.verdict(), NOT_RUN);
            x.addNumber(-1, 0, 1);
            x.clearLine(NonogramSolver.ROW, x.rows());
            x.setGiven(0, 0, 3);
            Check.due(state.name + ": after refused calls", x.verdict(), NOT_RUN);
            int answer = x.solve();
            Check.due(state.name + ": after solve()", x.verdict(), answer);
            Check.due(state.name + ": solve() answers NOT_RUN", answer == NOT_RUN, false);
            x.propagate();
            Check.due(state.name + ": after solve() and propagate()", x.verdict(), answer);
        }
    }

    private static void changesNothing() {
        for (States.State state : States.all()) {
            state.answers("verdict()", NonogramSolver::verdict, state.make().verdict());
        }
    }

    private static void refusedCallsKeepTheVerdict() {
        for (States.State state : States.all()) {
            NonogramSolver x = state.make();
            int verdict = x.verdict();
            x.addNumber(2, 0, 1);
            x.addNumber(NonogramSolver.ROW, 0, 0);
            x.addNumber(NonogramSolver.COL, x.cols(), 1);
            x.clearLine(-1, 0);
            x.clearLine(NonogramSolver.COL, -1);
            x.setGiven(x.rows(), 0, EMPTY);
            x.setGiven(0, 0, NonogramSolver.INVALID);
            x.known(-1, 0);
            x.given(0, x.cols());
            x.solutionCell(2, 0, 0);
            x.clueCount(2, 0);
            x.clueNumber(NonogramSolver.ROW, 0, 4);
            Check.due(state.name + ": after refused calls", x.verdict(), verdict);
        }
    }
}
