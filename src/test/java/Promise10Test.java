/** Each sentence of promise 10 that names a boundary case. */
public final class Promise10Test {
    private static final int UNKNOWN = NonogramSolver.UNKNOWN;
    private static final int EMPTY = NonogramSolver.EMPTY;
    private static final int FILLED = NonogramSolver.FILLED;

    private Promise10Test() {
    }

    public static void main(String[] args) {
        Sentence.test("`known(int r, int c)` answers the known value of cell `(r,c)` in the propagation result: UNKNOWN, EMPTY"
            + " or FILLED.", Promise10Test::answersEveryValue);
        Sentence.test("It answers INVALID when `r` or `c` is out of range. (r)", Promise10Test::rowsOutOfRangeAreInvalid);
        Sentence.test("It answers INVALID when `r` or `c` is out of range. (c)", Promise10Test::columnsOutOfRangeAreInvalid);
        Sentence.test("When the status is NOT_RUN .. every cell answers UNKNOWN", Promise10Test::notRunKnowsNoCell);
        Sentence.test("When the status is .. CONTRADICTION every cell answers UNKNOWN",
            Promise10Test::contradictionKnowsNoCell);
        Sentence.test("when COMPLETE no cell answers UNKNOWN.", Promise10Test::completeKnowsEveryCell);
        Sentence.test("`knownCount()` answers the number of cells whose known value is EMPTY or FILLED.",
            Promise10Test::countsKnownCells);
        Sentence.test("It is 0 when the status is NOT_RUN or CONTRADICTION", Promise10Test::countIsZeroWithoutResult);
        Sentence.test("`rows() * cols()` when the status is COMPLETE.", Promise10Test::countIsWholeWhenComplete);
        Sentence.test("Both change nothing.", Promise10Test::changeNothing);
        Check.end();
    }

    /** A grid whose first and last row and column hold all three values. */
    private static void answersEveryValue() {
        NonogramSolver x = Puzzles.puzzle("4 1 1", "1 1 2 1 1");
        x.propagate();
        String due = "?###?/..#../?...?";
        for (int r = 0; r < 3; r++) {
            for (int c = 0; c < 5; c++) {
                Check.due("known(" + r + ", " + c + ")", x.known(r, c), "?.#".indexOf(due.charAt(r * 6 + c)));
            }
        }
        NonogramSolver big = Puzzles.ofGrid("#......#/......../......../......../......../......../......../#......#");
        big.setGiven(0, 0, FILLED);
        big.propagate();
        for (int r = 0; r < 8; r++) {
            for (int c = 0; c < 8; c++) {
                boolean corner = (r == 0 || r == 7) && (c == 0 || c == 7);
                Check.due("8x8: known(" + r + ", " + c + ")", big.known(r, c), corner ? FILLED : EMPTY);
            }
        }
    }

    private static void rowsOutOfRangeAreInvalid() {
        for (States.State state : States.all()) {
            NonogramSolver sized = state.make();
            for (int r : States.outside(sized.rows())) {
                for (int c : new int[] {0, sized.cols() - 1, sized.cols(), 8, -1, 1 << 29}) {
                    state.answersInvalid("known(" + r + ", " + c + ")", x -> x.known(r, c));
                }
            }
        }
    }

    private static void columnsOutOfRangeAreInvalid() {
        for (States.State state : States.all()) {
            NonogramSolver sized = state.make();
            for (int c : States.outside(sized.cols())) {
                for (int r : new int[] {0, sized.rows() - 1, sized.rows(), 1, -1, 1 << 29}) {
                    state.answersInvalid("known(" + r + ", " + c + ")", x -> x.known(r, c));
                }
            }
        }
    }

    private static void knowsNothing(String name, NonogramSolver x) {
        Check.due(name + ": known cells", Puzzles.known(x), Puzzles.blank(x));
    }

    private static void notRunKnowsNoCell() {
        for (States.State state : States.all()) {
            NonogramSolver x = state.make();
            if (x.propagateStatus() == NonogramSolver.NOT_RUN) {
                knowsNothing(state.name, x);
            }
            x.propagate();
            x.setGiven(0, 0, EMPTY);
            knowsNothing(state.name + " after propagate() and setGiven", x);
            x.propagate();
            x.clearLine(NonogramSolver.ROW, 0);
            knowsNothing(state.name + " after propagate() and clearLine", x);
            x.propagate();
            x.addNumber(NonogramSolver.ROW, 0, 1);
            knowsNothing(state.name + " after propagate() and addNumber", x);
            x.solve();
            knowsNothing(state.name + " after a search", x);
        }
    }

    private static void contradictionKnowsNoCell() {
        for (States.State state : States.all()) {
            NonogramSolver x = state.make();
            x.propagate();
            spoil(x);
            Check.due(state.name + " spoilt: propagate()", x.propagate(), NonogramSolver.CONTRADICTION);
            knowsNothing(state.name + " spoilt", x);
        }
    }

    /** The last row must be full, but its first cell is EMPTY. */
    private static void spoil(NonogramSolver x) {
        x.clearLine(NonogramSolver.ROW, x.rows() - 1);
        x.addNumber(NonogramSolver.ROW, x.rows() - 1, x.cols());
        x.setGiven(x.rows() - 1, 0, EMPTY);
    }

    private static void completeKnowsEveryCell() {
        for (int rows = 1; rows <= 8; rows++) {
            for (int cols = 1; cols <= 8; cols++) {
                NonogramSolver empty = new NonogramSolver(rows, cols);
                Check.due("empty: propagate()", empty.propagate(), NonogramSolver.COMPLETE);
                NonogramSolver full = fullGrid(rows, cols);
                Check.due("full: propagate()", full.propagate(), NonogramSolver.COMPLETE);
                for (int cell = 0; cell < rows * cols; cell++) {
                    Check.due("empty " + rows + "x" + cols + ": cell " + cell, empty.known(cell / cols, cell % cols), EMPTY);
                    Check.due("full " + rows + "x" + cols + ": cell " + cell, full.known(cell / cols, cell % cols), FILLED);
                }
            }
        }
    }

    private static NonogramSolver fullGrid(int rows, int cols) {
        return Puzzles.puzzle((cols + " ").repeat(rows).trim(), (rows + " ").repeat(cols).trim());
    }

    private static void countsKnownCells() {
        for (int[] size : new int[][] {{1, 1}, {1, 3}, {3, 1}, {2, 3}, {3, 2}, {3, 3}}) {
            SmallPuzzles.each(size[0], size[1], (name, x, solutions) -> {
                x.propagate();
                int due = 0;
                for (int r = 0; r < x.rows(); r++) {
                    for (int c = 0; c < x.cols(); c++) {
                        due += x.known(r, c) == UNKNOWN ? 0 : 1;
                    }
                }
                Check.due(name + ": knownCount()", x.knownCount(), due);
            });
        }
        NonogramSolver stalled = Puzzles.puzzle("1 1 - - - - - -", "1 1 - - - - - -");
        stalled.propagate();
        Check.due("8x8 with four open cells: knownCount()", stalled.knownCount(), 60);
        NonogramSolver open = Puzzles.puzzle("1 1 1 1 1 1 1 1", "1 1 1 1 1 1 1 1");
        open.propagate();
        Check.due("8x8 with no known cell: knownCount()", open.knownCount(), 0);
    }

    private static void countIsZeroWithoutResult() {
        for (States.State state : States.all()) {
            NonogramSolver x = state.make();
            if (x.propagateStatus() == NonogramSolver.NOT_RUN || x.propagateStatus() == NonogramSolver.CONTRADICTION) {
                Check.due(state.name + ": knownCount()", x.knownCount(), 0);
            }
            x.propagate();
            x.setGiven(0, 0, FILLED);
            Check.due(state.name + ": knownCount() after a reset", x.knownCount(), 0);
            spoil(x);
            x.propagate();
            Check.due(state.name + ": knownCount() after CONTRADICTION", x.knownCount(), 0);
        }
    }

    private static void countIsWholeWhenComplete() {
        for (int rows = 1; rows <= 8; rows++) {
            for (int cols = 1; cols <= 8; cols++) {
                NonogramSolver empty = new NonogramSolver(rows, cols);
                empty.propagate();
                Check.due("empty " + rows + "x" + cols + ": knownCount()", empty.knownCount(), rows * cols);
                NonogramSolver full = fullGrid(rows, cols);
                full.propagate();
                Check.due("full " + rows + "x" + cols + ": knownCount()", full.knownCount(), rows * cols);
            }
        }
    }

    private static void changeNothing() {
        for (States.State state : States.all()) {
            NonogramSolver sized = state.make();
            state.answers("knownCount()", NonogramSolver::knownCount, sized.knownCount());
            for (int r = 0; r < sized.rows(); r++) {
                for (int c = 0; c < sized.cols(); c++) {
                    int row = r;
                    int col = c;
                    state.answers("known(" + r + ", " + c + ")", x -> x.known(row, col), sized.known(r, c));
                }
            }
        }
    }
}
