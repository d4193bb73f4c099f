/** Each sentence of promise 2 that names a boundary case. */
public final class Promise02Test {
    private Promise02Test() {
    }

    public static void main(String[] args) {
        Sentence.test("`rows()` answers the number of rows and `cols()` the number of columns, each in 1..8, as fixed by the"
            + " constructor.", Promise02Test::answerTheSize);
        Sentence.test("They change nothing.", Promise02Test::changeNothing);
        Check.end();
    }

    private static void answerTheSize() {
        for (int rows = -1; rows <= 10; rows++) {
            for (int cols = -1; cols <= 10; cols++) {
                NonogramSolver x = new NonogramSolver(rows, cols);
                String made = "(" + rows + ", " + cols + ")";
                Check.due("rows() of " + made, x.rows(), Math.max(1, Math.min(8, rows)));
                Check.due("cols() of " + made, x.cols(), Math.max(1, Math.min(8, cols)));
                // As many rows and columns as the other calls know.
                for (int line = 0; line <= 8; line++) {
                    Check.due("row " + line + " of " + made + " is there", x.clueCount(NonogramSolver.ROW, line) == 0,
                        line < x.rows());
                    Check.due("column " + line + " of " + made + " is there", x.clueCount(NonogramSolver.COL, line) == 0,
                        line < x.cols());
                }
            }
        }
    }

    private static void changeNothing() {
        for (States.State state : States.all()) {
            NonogramSolver sized = state.make();
            int rows = sized.rows();
            int cols = sized.cols();
            state.answers("rows()", NonogramSolver::rows, rows);
            state.answers("cols()", NonogramSolver::cols, cols);
        }
    }
}
