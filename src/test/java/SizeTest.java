/** Promises 1 and 2: construction, starting state and size. */
public final class SizeTest {
    private SizeTest() {
    }

    public static void main(String[] args) {
        clampsEverySize();
        startsBlank();
        sizeStays();
        objectsAreApart();
        Check.end();
    }

    private static void clampsEverySize() {
        int[] asked = {Integer.MIN_VALUE, Integer.MIN_VALUE + 1, -256, -8, -1, 0, 1, 2, 3, 4, 5, 6, 7, 8, 9, 16, 256,
            Integer.MAX_VALUE - 1, Integer.MAX_VALUE};
        for (int rows : asked) {
            for (int cols : asked) {
                NonogramSolver x = new NonogramSolver(rows, cols);
                String made = "new NonogramSolver(" + rows + ", " + cols + ")";
                Check.due(made + ".rows()", x.rows(), clamped(rows));
                Check.due(made + ".cols()", x.cols(), clamped(cols));
            }
        }
    }

    private static int clamped(int size) {
        return Math.max(1, Math.min(8, size));
    }

    private static void startsBlank() {
        for (int rows = 0; rows <= 9; rows++) {
            for (int cols = 0; cols <= 9; cols++) {
                NonogramSolver x = new NonogramSolver(rows, cols);
                for (int line = 0; line < x.rows(); line++) {
                    Check.due("fresh clueCount(0, " + line + ")", x.clueCount(0, line), 0);
                }
                for (int line = 0; line < x.cols(); line++) {
                    Check.due("fresh clueCount(1, " + line + ")", x.clueCount(1, line), 0);
                }
                Check.due("fresh givens", Puzzles.givens(x), Puzzles.blank(x));
                Check.due("fresh results", Puzzles.results(x), Puzzles.resetResults(x));
            }
        }
    }

    private static void sizeStays() {
        NonogramSolver x = new NonogramSolver(3, 7);
        x.addNumber(NonogramSolver.ROW, 2, 7);
        x.addNumber(NonogramSolver.ROW, 3, 1);
        x.clearLine(NonogramSolver.COL, 6);
        x.setGiven(2, 6, NonogramSolver.FILLED);
        x.propagate();
        x.solve();
        Check.due("rows() after other calls", x.rows(), 3);
        Check.due("cols() after other calls", x.cols(), 7);
    }

    private static void objectsAreApart() {
        NonogramSolver used = Puzzles.puzzle("1 1", "1 1");
        NonogramSolver other = new NonogramSolver(2, 2);
        used.setGiven(0, 0, NonogramSolver.FILLED);
        used.propagate();
        used.solve();
        Check.due("clues of another object", Puzzles.clues(other), " r0: r1: c0: c1:");
        Check.due("givens of another object", Puzzles.givens(other), "??/??");
        Check.due("results of another object", Puzzles.results(other), Puzzles.resetResults(other));
    }
}
