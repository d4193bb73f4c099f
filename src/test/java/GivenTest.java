/** Promises 6 and 7: setting and reading a given. */
public final class GivenTest {
    private static final int[][] OUTSIDE = {{-1, 0}, {3, 0}, {4, 0}, {8, 0}, {0, -1}, {0, 4}, {0, 8}, {-1, -1}, {3, 4},
        {-1, 8}, {1, -8}, {Integer.MIN_VALUE, 0}, {Integer.MAX_VALUE, 0}, {0, Integer.MIN_VALUE}, {0, Integer.MAX_VALUE},
        {1 << 29, 0}, {0, 1 << 29}};

    private GivenTest() {
    }

    public static void main(String[] args) {
        setsAndReads();
        refuses();
        resetsEvenWithoutChange();
        Check.end();
    }

    private static NonogramSolver busy() {
        NonogramSolver x = Puzzles.puzzle("1 1 1", "1 1 1 -");
        x.setGiven(1, 2, NonogramSolver.EMPTY);
        x.propagate();
        x.solve();
        return x;
    }

    private static void setsAndReads() {
        for (int r = 0; r < 3; r++) {
            for (int c = 0; c < 4; c++) {
                for (int v = NonogramSolver.UNKNOWN; v <= NonogramSolver.FILLED; v++) {
                    NonogramSolver x = busy();
                    String clues = Puzzles.clues(x);
                    String call = "setGiven(" + r + ", " + c + ", " + v + ")";
                    StringBuilder due = new StringBuilder("????/??.?/????");
                    due.setCharAt(r * 5 + c, "?.#".charAt(v));
                    Check.due(call, x.setGiven(r, c, v), true);
                    Check.due("given after " + call, x.given(r, c), v);
                    Check.due("givens after " + call, Puzzles.givens(x), due.toString());
                    Check.due("clues after " + call, Puzzles.clues(x), clues);
                    Check.due("results after " + call, Puzzles.results(x), Puzzles.resetResults(x));
                }
            }
        }
        NonogramSolver big = new NonogramSolver(8, 8);
        Check.due("setGiven(7, 7, 2)", big.setGiven(7, 7, NonogramSolver.FILLED), true);
        Check.due("setGiven(7, 7, 1)", big.setGiven(7, 7, NonogramSolver.EMPTY), true);
        Check.due("given(7, 7)", big.given(7, 7), NonogramSolver.EMPTY);
        Check.due("setGiven(7, 7, 0)", big.setGiven(7, 7, NonogramSolver.UNKNOWN), true);
        Check.due("given(7, 7)", big.given(7, 7), NonogramSolver.UNKNOWN);
    }

    private static void refuses() {
        NonogramSolver x = busy();
        String before = Puzzles.state(x);
        for (int[] o : OUTSIDE) {
            for (int v = NonogramSolver.UNKNOWN; v <= NonogramSolver.FILLED; v++) {
                String call = "setGiven(" + o[0] + ", " + o[1] + ", " + v + ")";
                Check.due(call, x.setGiven(o[0], o[1], v), false);
                Check.due("state after " + call, Puzzles.state(x), before);
            }
            Check.due("given(" + o[0] + ", " + o[1] + ")", x.given(o[0], o[1]), NonogramSolver.INVALID);
        }
        int[] wrong = {NonogramSolver.INVALID, -2, 3, 4, 5, 256, 257, Integer.MIN_VALUE, Integer.MAX_VALUE};
        for (int v : wrong) {
            String call = "setGiven(1, 2, " + v + ")";
            Check.due(call, x.setGiven(1, 2, v), false);
            Check.due("state after " + call, Puzzles.state(x), before);
        }
        Check.due("state after reading", Puzzles.state(x), before);
    }

    private static void resetsEvenWithoutChange() {
        NonogramSolver x = busy();
        Check.due("setGiven(1, 2, 1) again", x.setGiven(1, 2, NonogramSolver.EMPTY), true);
        Check.due("results after it", Puzzles.results(x), Puzzles.resetResults(x));
        x.propagate();
        x.solve();
        Check.due("setGiven(0, 0, 0) again", x.setGiven(0, 0, NonogramSolver.UNKNOWN), true);
        Check.due("results after it", Puzzles.results(x), Puzzles.resetResults(x));
    }
}
