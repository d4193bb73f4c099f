/** Each sentence of promise 1 that names a boundary case. */
public final class Promise01Test {
    private static final int[] BELOW = {0, -1, -2, -7, -8, -9, -255, -256, -65535, -65536, -(1 << 30), Integer.MIN_VALUE + 1,
        Integer.MIN_VALUE + 8, Integer.MIN_VALUE};
    private static final int[] ABOVE = {9, 10, 15, 16, 17, 255, 256, 257, 65536, 65537, 1 << 30, Integer.MAX_VALUE - 1,
        Integer.MAX_VALUE};

    private Promise01Test() {
    }

    public static void main(String[] args) {
        Sentence.test("`NonogramSolver(int rows, int cols)` never fails.", Promise01Test::neverFails);
        Sentence.test("a value below 1 becomes 1", Promise01Test::belowOneBecomesOne);
        Sentence.test("a value above 8 becomes 8", Promise01Test::aboveEightBecomesEight);
        Sentence.test("a value in 1..8 is kept", Promise01Test::oneToEightIsKept);
        Sentence.test("This holds for every `int`, including `Integer.MIN_VALUE`, 0, negative values and"
            + " `Integer.MAX_VALUE`.", Promise01Test::everyIntIsClamped);
        Sentence.test("The grid size never changes afterwards.", Promise01Test::sizeNeverChanges);
        Sentence.test("A fresh object has all clues empty", Promise01Test::freshCluesAreEmpty);
        Sentence.test("all givens UNKNOWN", Promise01Test::freshGivensAreUnknown);
        Sentence.test("both results reset: `propagateStatus()` is NOT_RUN, every `known` cell is UNKNOWN, `knownCount()`"
            + " is 0, `verdict()` is NOT_RUN, and every cell of both stored grids is UNKNOWN.",
            Promise01Test::freshResultsAreReset);
        Check.end();
    }

    private static void neverFails() {
        int[] sizes = {Integer.MIN_VALUE, -1, 0, 1, 8, 9, Integer.MAX_VALUE};
        for (int rows : sizes) {
            for (int cols : sizes) {
                NonogramSolver x = new NonogramSolver(rows, cols);
                String made = "new NonogramSolver(" + rows + ", " + cols + ")";
                // The object that was made is a whole one: it works up to its last cell.
                Check.due(made + " takes a given in its last cell", x.setGiven(x.rows() - 1, x.cols() - 1, 1), true);
                Check.due(made + ".propagate()", x.propagate(), NonogramSolver.COMPLETE);
                Check.due(made + ".solve()", x.solve(), NonogramSolver.UNIQUE);
            }
        }
    }

    private static void belowOneBecomesOne() {
        for (int below : BELOW) {
            Check.due("rows of (" + below + ", 5)", new NonogramSolver(below, 5).rows(), 1);
            Check.due("cols of (5, " + below + ")", new NonogramSolver(5, below).cols(), 1);
            Check.due("cols of (" + below + ", 5)", new NonogramSolver(below, 5).cols(), 5);
            Check.due("rows of (5, " + below + ")", new NonogramSolver(5, below).rows(), 5);
        }
    }

    private static void aboveEightBecomesEight() {
        for (int above : ABOVE) {
            Check.due("rows of (" + above + ", 5)", new NonogramSolver(above, 5).rows(), 8);
            Check.due("cols of (5, " + above + ")", new NonogramSolver(5, above).cols(), 8);
            Check.due("cols of (" + above + ", 5)", new NonogramSolver(above, 5).cols(), 5);
            Check.due("rows of (5, " + above + ")", new NonogramSolver(5, above).rows(), 5);
        }
    }

    private static void oneToEightIsKept() {
        for (int rows = 1; rows <= 8; rows++) {
            for (int cols = 1; cols <= 8; cols++) {
                NonogramSolver x = new NonogramSolver(rows, cols);
                Check.due("rows of (" + rows + ", " + cols + ")", x.rows(), rows);
                Check.due("cols of (" + rows + ", " + cols + ")", x.cols(), cols);
            }
        }
    }

    private static void everyIntIsClamped() {
        clampsLike(Integer.MIN_VALUE, 1);
        clampsLike(0, 1);
        clampsLike(-1, 1);
        clampsLike(Integer.MAX_VALUE, 8);
        // Every power of two and its neighbours, of both signs, so that no narrowing and no negation goes unseen.
        for (int bit = 0; bit < 32; bit++) {
            for (int near = -9; near <= 9; near++) {
                int size = (1 << bit) + near;
                clampsLike(size, Math.max(1, Math.min(8, size)));
                clampsLike(-size, Math.max(1, Math.min(8, -size)));
            }
        }
    }

    private static void clampsLike(int size, int due) {
        NonogramSolver x = new NonogramSolver(size, size);
        Check.due("rows of (" + size + ", " + size + ")", x.rows(), due);
        Check.due("cols of (" + size + ", " + size + ")", x.cols(), due);
    }

    private static void sizeNeverChanges() {
        for (int rows = 1; rows <= 8; rows++) {
            for (int cols = 1; cols <= 8; cols++) {
                NonogramSolver x = new NonogramSolver(rows, cols);
                x.addNumber(NonogramSolver.ROW, rows - 1, cols);
                keepsSize(x, rows, cols, "addNumber of a whole row");
                x.addNumber(NonogramSolver.COL, cols - 1, rows);
                keepsSize(x, rows, cols, "addNumber of a whole column");
                x.addNumber(NonogramSolver.ROW, rows, 1);
                x.addNumber(NonogramSolver.COL, cols, 1);
                x.addNumber(NonogramSolver.ROW, 0, 9);
                keepsSize(x, rows, cols, "refused addNumber");
                x.setGiven(rows - 1, cols - 1, NonogramSolver.FILLED);
                x.setGiven(rows, cols, NonogramSolver.FILLED);
                keepsSize(x, rows, cols, "setGiven");
                x.propagate();
                keepsSize(x, rows, cols, "propagate");
                x.solve();
                keepsSize(x, rows, cols, "solve");
                x.clearLine(NonogramSolver.ROW, rows - 1);
                x.clearLine(NonogramSolver.COL, cols);
                keepsSize(x, rows, cols, "clearLine");
                x.propagate();
                x.solve();
                keepsSize(x, rows, cols, "propagate and solve again");
            }
        }
    }

    private static void keepsSize(NonogramSolver x, int rows, int cols, String what) {
        Check.due(rows + "x" + cols + ": rows() after " + what, x.rows(), rows);
        Check.due(rows + "x" + cols + ": cols() after " + what, x.cols(), cols);
        Check.due(rows + "x" + cols + ": the last row after " + what, x.given(rows - 1, 0) >= 0, true);
        Check.due(rows + "x" + cols + ": the row behind it after " + what, x.given(rows, 0), NonogramSolver.INVALID);
        Check.due(rows + "x" + cols + ": the last column after " + what, x.given(0, cols - 1) >= 0, true);
        Check.due(rows + "x" + cols + ": the column behind it after " + what, x.given(0, cols), NonogramSolver.INVALID);
    }

    private static void freshCluesAreEmpty() {
        for (int rows = 0; rows <= 9; rows++) {
            for (int cols = 0; cols <= 9; cols++) {
                NonogramSolver x = new NonogramSolver(rows, cols);
                for (int line = 0; line < x.rows(); line++) {
                    Check.due("fresh clueCount(0, " + line + ")", x.clueCount(NonogramSolver.ROW, line), 0);
                }
                for (int line = 0; line < x.cols(); line++) {
                    Check.due("fresh clueCount(1, " + line + ")", x.clueCount(NonogramSolver.COL, line), 0);
                }
            }
        }
    }

    private static void freshGivensAreUnknown() {
        for (int rows = 0; rows <= 9; rows++) {
            for (int cols = 0; cols <= 9; cols++) {
                NonogramSolver x = new NonogramSolver(rows, cols);
                Check.due("fresh givens of (" + rows + ", " + cols + ")", Puzzles.givens(x), Puzzles.blank(x));
            }
        }
    }

    private static void freshResultsAreReset() {
        for (int rows = 0; rows <= 9; rows++) {
            for (int cols = 0; cols <= 9; cols++) {
                NonogramSolver x = new NonogramSolver(rows, cols);
                String made = "fresh (" + rows + ", " + cols + "): ";
                Check.due(made + "propagateStatus()", x.propagateStatus(), NonogramSolver.NOT_RUN);
                Check.due(made + "known cells", Puzzles.known(x), Puzzles.blank(x));
                Check.due(made + "knownCount()", x.knownCount(), 0);
                Check.due(made + "verdict()", x.verdict(), NonogramSolver.NOT_RUN);
                Check.due(made + "grid 0", Puzzles.stored(x, 0), Puzzles.blank(x));
                Check.due(made + "grid 1", Puzzles.stored(x, 1), Puzzles.blank(x));
            }
        }
    }
}
