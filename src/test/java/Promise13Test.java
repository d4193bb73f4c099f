/** Each sentence of promise 13 that names a boundary case. */
public final class Promise13Test {
    private static final int EMPTY = NonogramSolver.EMPTY;
    private static final int FILLED = NonogramSolver.FILLED;

    private Promise13Test() {
    }

    public static void main(String[] args) {
        Sentence.test("`solutionCell(int k, int r, int c)` answers cell `(r,c)` of stored grid `k`: UNKNOWN, EMPTY or FILLED.",
            Promise13Test::answersEveryValue);
        Sentence.test("It answers INVALID when `k` is not 0 or 1", Promise13Test::otherGridsAreInvalid);
        Sentence.test("It answers INVALID when .. `r` .. is out of range.", Promise13Test::rowsOutOfRangeAreInvalid);
        Sentence.test("It answers INVALID when .. `c` is out of range.", Promise13Test::columnsOutOfRangeAreInvalid);
        Sentence.test("While the verdict is NOT_RUN .. every cell of both grids answers UNKNOWN",
            Promise13Test::notRunStoresNothing);
        Sentence.test("While the verdict is .. NO_SOLUTION every cell of both grids answers UNKNOWN",
            Promise13Test::noSolutionStoresNothing);
        Sentence.test("while it is UNIQUE every cell of grid 1 answers UNKNOWN.", Promise13Test::uniqueStoresOneGrid);
        Sentence.test("It changes nothing.", Promise13Test::changesNothing);
        Check.end();
    }

    /** Two grids that differ in the corners of the greatest size, and one that is alone. */
    private static void answersEveryValue() {
        NonogramSolver x = Puzzles.puzzle("1 - - - - - - 1", "1 - - - - - - 1");
        x.solve();
        for (int r = 0; r < 8; r++) {
            for (int c = 0; c < 8; c++) {
                boolean first = r == 0 && c == 7 || r == 7 && c == 0;
                boolean second = r == 0 && c == 0 || r == 7 && c == 7;
                Check.due("solutionCell(0, " + r + ", " + c + ")", x.solutionCell(0, r, c), first ? FILLED : EMPTY);
                Check.due("solutionCell(1, " + r + ", " + c + ")", x.solutionCell(1, r, c), second ? FILLED : EMPTY);
            }
        }
        NonogramSolver one = Puzzles.puzzle("1", "1");
        Check.due("1x1: solutionCell(0, 0, 0) before solve()", one.solutionCell(0, 0, 0), NonogramSolver.UNKNOWN);
        one.solve();
        Check.due("1x1: solutionCell(0, 0, 0)", one.solutionCell(0, 0, 0), FILLED);
        Check.due("1x1: solutionCell(1, 0, 0)", one.solutionCell(1, 0, 0), NonogramSolver.UNKNOWN);
    }

    private static void otherGridsAreInvalid() {
        for (States.State state : States.all()) {
            NonogramSolver sized = state.make();
            int lastRow = sized.rows() - 1;
            int lastCol = sized.cols() - 1;
            for (int k : States.neither0Nor1()) {
                state.answersInvalid("solutionCell(" + k + ", 0, 0)", x -> x.solutionCell(k, 0, 0));
                state.answersInvalid("solutionCell(" + k + ", last, last)", x -> x.solutionCell(k, lastRow, lastCol));
            }
            // What an index made of grid and row could take for a cell of grid 0 or 1.
            state.answersInvalid("solutionCell(-1, 8, 0)", x -> x.solutionCell(-1, 8, 0));
            state.answersInvalid("solutionCell(2, -8, 0)", x -> x.solutionCell(2, -8, 0));
        }
    }

    private static void rowsOutOfRangeAreInvalid() {
        for (States.State state : States.all()) {
            NonogramSolver sized = state.make();
            for (int r : States.outside(sized.rows())) {
                for (int c : new int[] {0, sized.cols() - 1, sized.cols(), 8, -1}) {
                    state.answersInvalid("solutionCell(0, " + r + ", " + c + ")", x -> x.solutionCell(0, r, c));
                    state.answersInvalid("solutionCell(1, " + r + ", " + c + ")", x -> x.solutionCell(1, r, c));
                }
            }
        }
    }

    private static void columnsOutOfRangeAreInvalid() {
        for (States.State state : States.all()) {
            NonogramSolver sized = state.make();
            for (int c : States.outside(sized.cols())) {
                for (int r : new int[] {0, sized.rows() - 1, sized.rows(), 1, -1}) {
                    state.answersInvalid("solutionCell(0, " + r + ", " + c + ")", x -> x.solutionCell(0, r, c));
                    state.answersInvalid("solutionCell(1, " + r + ", " + c + ")", x -> x.solutionCell(1, r, c));
                }
            }
        }
    }

    private static void storesNothing(String name, NonogramSolver x) {
        Check.due(name + ": grid 0", Puzzles.stored(x, 0), Puzzles.blank(x));
        Check.due(name + ": grid 1", Puzzles.stored(x, 1), Puzzles.blank(x));
    }

    private static void notRunStoresNothing() {
        for (States.State state : States.all()) {
            NonogramSolver x = state.make();
            if (x.verdict() == NonogramSolver.NOT_RUN) {
                storesNothing(state.name, x);
            }
            x.solve();
            x.setGiven(0, 0, x.given(0, 0));
            storesNothing(state.name + " after solve() and setGiven", x);
            x.solve();
            x.clearLine(NonogramSolver.COL, 0);
            storesNothing(state.name + " after solve() and clearLine", x);
            x.solve();
            x.addNumber(NonogramSolver.COL, 0, 1);
            storesNothing(state.name + " after solve() and addNumber", x);
            x.propagate();
            storesNothing(state.name + " after propagate()", x);
        }
    }

    private static void noSolutionStoresNothing() {
        for (States.State state : States.all()) {
            NonogramSolver x = state.make();
            if (x.verdict() == NonogramSolver.NO_SOLUTION) {
                storesNothing(state.name, x);
            }
            x.clearLine(NonogramSolver.COL, x.cols() - 1);
            x.setGiven(x.rows() - 1, x.cols() - 1, FILLED);
            Check.due(state.name + ", FILLED under an empty clue: solve()", x.solve(), NonogramSolver.NO_SOLUTION);
            storesNothing(state.name + ", FILLED under an empty clue", x);
        }
        // A search that goes far before it finds that there is nothing.
        NonogramSolver hard = Puzzles.puzzle("2 3 3 2", "2 3 3 1,1");
        Check.due("stalled, none: solve()", hard.solve(), NonogramSolver.NO_SOLUTION);
        storesNothing("stalled, none", hard);
    }

    private static void uniqueStoresOneGrid() {
        for (int rows = 1; rows <= 8; rows++) {
            for (int cols = 1; cols <= 8; cols++) {
                NonogramSolver x = new NonogramSolver(rows, cols);
                Check.due("empty " + rows + "x" + cols + ": solve()", x.solve(), NonogramSolver.UNIQUE);
                Check.due("empty " + rows + "x" + cols + ": grid 0", Puzzles.stored(x, 0), Puzzles.blank(x).replace('?', '.'));
                Check.due("empty " + rows + "x" + cols + ": grid 1", Puzzles.stored(x, 1), Puzzles.blank(x));
            }
        }
        // A search that goes on after the first solution and finds no second one; and one after a search that found two.
        NonogramSolver stalled = Puzzles.puzzle("1,1 1,1 2", "2 1 1 2");
        Check.due("stalled, unique: solve()", stalled.solve(), NonogramSolver.UNIQUE);
        Check.due("stalled, unique: grid 1", Puzzles.stored(stalled, 1), Puzzles.blank(stalled));
        NonogramSolver two = Puzzles.puzzle("1 1", "1 1");
        two.solve();
        two.setGiven(1, 1, FILLED);
        two.solve();
        Check.due("two, then one: grid 1", Puzzles.stored(two, 1), "??/??");
    }

    private static void changesNothing() {
        for (States.State state : States.all()) {
            NonogramSolver sized = state.make();
            for (int k = 0; k < 2; k++) {
                for (int cell = 0; cell < sized.rows() * sized.cols(); cell++) {
                    int grid = k;
                    int r = cell / sized.cols();
                    int c = cell % sized.cols();
                    state.answers("solutionCell(" + k + ", " + r + ", " + c + ")", x -> x.solutionCell(grid, r, c),
                        sized.solutionCell(k, r, c));
                }
            }
        }
    }
}
