/** Each sentence of promise 6 that names a boundary case. */
public final class Promise06Test {
    private static final int UNKNOWN = NonogramSolver.UNKNOWN;
    private static final int FILLED = NonogramSolver.FILLED;

    private Promise06Test() {
    }

    public static void main(String[] args) {
        Sentence.test("answers `false` and changes nothing unless `0 <= r < rows()`", Promise06Test::rowsOutOfRangeFail);
        Sentence.test("answers `false` and changes nothing unless .. `0 <= c < cols()`", Promise06Test::columnsOutOfRangeFail);
        Sentence.test("answers `false` and changes nothing unless .. `v` is UNKNOWN, EMPTY or FILLED (any other `v`, such as"
            + " INVALID or 3, fails).", Promise06Test::otherValuesFail);
        Sentence.test("Otherwise it sets the given of cell `(r,c)` to `v`", Promise06Test::setsEveryCellToEveryValue);
        Sentence.test("(also when `v` equals the old value ..)", Promise06Test::theOldValueResetsToo);
        Sentence.test("(.. and also when `v` is UNKNOWN)", Promise06Test::unknownTakesTheGivenAway);
        Sentence.test("resets both results, and answers `true`.", Promise06Test::resetsAtTrue);
        Sentence.test("No other given and no clue changes.", Promise06Test::nothingElseChanges);
        Check.end();
    }

    private static void refuses(States.State state, int r, int c, int v) {
        state.refuses("setGiven(" + r + ", " + c + ", " + v + ")", x -> x.setGiven(r, c, v));
    }

    private static void rowsOutOfRangeFail() {
        for (States.State state : States.all()) {
            NonogramSolver sized = state.make();
            for (int r : States.outside(sized.rows())) {
                for (int v = UNKNOWN; v <= FILLED; v++) {
                    refuses(state, r, 0, v);
                }
                refuses(state, r, sized.cols() - 1, FILLED);
            }
            // What an index made of row and column could take for a cell of the grid.
            refuses(state, -1, 8, FILLED);
            refuses(state, -1, sized.cols(), FILLED);
        }
    }

    private static void columnsOutOfRangeFail() {
        for (States.State state : States.all()) {
            NonogramSolver sized = state.make();
            for (int c : States.outside(sized.cols())) {
                for (int v = UNKNOWN; v <= FILLED; v++) {
                    refuses(state, 0, c, v);
                }
                refuses(state, sized.rows() - 1, c, FILLED);
            }
            refuses(state, 1, -8, FILLED);
            refuses(state, sized.rows(), -1, FILLED);
            refuses(state, sized.rows(), sized.cols(), FILLED);
        }
    }

    private static void otherValuesFail() {
        int[] others = {NonogramSolver.INVALID, 3, -2, -3, 4, 5, 6, 7, 8, 255, 256, 257, 258, 65536, 65537, 65538, 1 << 30,
            Integer.MIN_VALUE, Integer.MIN_VALUE + 1, Integer.MIN_VALUE + 2, Integer.MAX_VALUE};
        for (States.State state : States.all()) {
            NonogramSolver sized = state.make();
            for (int v : others) {
                refuses(state, 0, 0, v);
                refuses(state, sized.rows() - 1, sized.cols() - 1, v);
            }
        }
    }

    private static void setsEveryCellToEveryValue() {
        for (int[] size : new int[][] {{1, 1}, {1, 8}, {8, 1}, {3, 5}, {5, 3}, {8, 8}}) {
            NonogramSolver x = new NonogramSolver(size[0], size[1]);
            for (int r = 0; r < size[0]; r++) {
                for (int c = 0; c < size[1]; c++) {
                    for (int v : new int[] {2, 1, 0, 1, 2}) {
                        String call = size[0] + "x" + size[1] + ": setGiven(" + r + ", " + c + ", " + v + ")";
                        Check.due(call, x.setGiven(r, c, v), true);
                        Check.due("given after " + call, x.given(r, c), v);
                    }
                }
            }
        }
    }

    private static void theOldValueResetsToo() {
        for (States.State state : States.all()) {
            NonogramSolver sized = state.make();
            for (int r = 0; r < sized.rows(); r++) {
                for (int c = 0; c < sized.cols(); c++) {
                    int row = r;
                    int col = c;
                    int old = sized.given(r, c);
                    state.resetsAtTrue("setGiven(" + r + ", " + c + ", " + old + ") again", x -> x.setGiven(row, col, old));
                }
            }
        }
        for (int v = UNKNOWN; v <= FILLED; v++) {
            NonogramSolver x = new NonogramSolver(2, 2);
            x.setGiven(1, 1, v);
            x.propagate();
            x.solve();
            Check.due("setGiven(1, 1, " + v + ") again", x.setGiven(1, 1, v), true);
            Check.due("given after it", x.given(1, 1), v);
            Check.due("results after it", Puzzles.results(x), Puzzles.resetResults(x));
        }
    }

    private static void unknownTakesTheGivenAway() {
        for (int v = UNKNOWN; v <= FILLED; v++) {
            NonogramSolver x = Puzzles.puzzle("1 1", "1 1");
            x.setGiven(1, 1, v);
            x.propagate();
            x.solve();
            Check.due("setGiven(1, 1, UNKNOWN) after " + v, x.setGiven(1, 1, UNKNOWN), true);
            Check.due("given(1, 1) after it", x.given(1, 1), UNKNOWN);
            Check.due("results after it", Puzzles.results(x), Puzzles.resetResults(x));
            Check.due("propagate() after it", x.propagate(), NonogramSolver.STALLED);
            Check.due("solve() after it", x.solve(), NonogramSolver.MULTIPLE);
        }
    }

    private static void resetsAtTrue() {
        for (States.State state : States.all()) {
            NonogramSolver sized = state.make();
            int lastRow = sized.rows() - 1;
            int lastCol = sized.cols() - 1;
            for (int v = UNKNOWN; v <= FILLED; v++) {
                int value = v;
                state.resetsAtTrue("setGiven(0, 0, " + v + ")", x -> x.setGiven(0, 0, value));
                state.resetsAtTrue("setGiven(last, last, " + v + ")", x -> x.setGiven(lastRow, lastCol, value));
            }
        }
    }

    private static void nothingElseChanges() {
        for (States.State state : States.all()) {
            NonogramSolver before = state.make();
            for (int r = 0; r < before.rows(); r++) {
                for (int c = 0; c < before.cols(); c++) {
                    for (int v = UNKNOWN; v <= FILLED; v++) {
                        NonogramSolver x = state.make();
                        x.setGiven(r, c, v);
                        StringBuilder due = new StringBuilder(Puzzles.givens(before));
                        due.setCharAt(r * (before.cols() + 1) + c, "?.#".charAt(v));
                        String call = state.name + ": setGiven(" + r + ", " + c + ", " + v + ")";
                        Check.due("givens after " + call, Puzzles.givens(x), due.toString());
                        Check.due("clues after " + call, Puzzles.clues(x), Puzzles.clues(before));
                    }
                }
            }
        }
    }
}
