import java.util.Arrays;
import java.util.List;

/** All promises: runs of calls on the program and on the plain model, which must answer and look alike throughout. */
public final class ModelTest {
    private static long seed = 20261115;

    private ModelTest() {
    }

    public static void main(String[] args) {
        modelAgreesWithEveryGrid();
        runsOfAnyCalls();
        puzzlesOfEverySize();
        Check.end();
    }

    /** A number from 0 to bound-1 that is the same in every run of the test. */
    private static int next(int bound) {
        seed = seed * 6364136223846793005L + 1442695040888963407L;
        return (int) ((seed >>> 33) % bound);
    }

    private static void modelAgreesWithEveryGrid() {
        for (int run = 0; run < 300 && Check.wrongAnswers() < 20; run++) {
            Model m = new Model(1 + next(3), 1 + next(4));
            NonogramSolver x = new NonogramSolver(m.rows, m.cols);
            setClues(x, m, 2 + next(6), next(3) == 0);
            setGivens(x, m, next(3));
            int[][][] firstTwo = new int[2][m.rows][m.cols];
            int found = m.verdictByEveryGrid(firstTwo);
            Check.due("the model's solve() on " + m.state(), m.solve(), found);
            Check.due("the model's stored grids", Arrays.deepEquals(m.stored, firstTwo), true);
            Check.due("solve() on " + m.state(), x.solve(), found);
            Check.due("state after it", Puzzles.state(x), m.state());
        }
    }

    private static int size() {
        int[] odd = {0, -1, 9, Integer.MIN_VALUE, Integer.MAX_VALUE};
        return next(12) == 0 ? odd[next(odd.length)] : 1 + next(5);
    }

    /** Mostly from 0 to bound-1, at times just outside or far outside. */
    private static int argument(int bound) {
        int[] odd = {-1, bound, bound + 1, 8, 9, -8, Integer.MIN_VALUE, Integer.MAX_VALUE};
        return next(10) == 0 ? odd[next(odd.length)] : next(bound);
    }

    private static void runsOfAnyCalls() {
        for (int run = 0; run < 1500 && Check.wrongAnswers() < 20; run++) {
            int rows = size();
            int cols = size();
            Model m = new Model(rows, cols);
            NonogramSolver x = new NonogramSolver(rows, cols);
            int calls = 5 + next(60);
            for (int i = 0; i < calls && Check.wrongAnswers() < 20; i++) {
                anyCall(x, m, "run " + run + " call " + i + ": ");
                Check.due("run " + run + ": state after call " + i, Puzzles.state(x), m.state());
            }
        }
    }

    private static void anyCall(NonogramSolver x, Model m, String where) {
        int kind = argument(2);
        int line = argument(kind == 0 ? m.rows : m.cols);
        int r = argument(m.rows);
        int c = argument(m.cols);
        switch (next(12)) {
            case 0: case 1: case 2: case 3:
                int n = argument(4);
                Check.due(where + "addNumber " + kind + " " + line + " " + n, x.addNumber(kind, line, n),
                    m.addNumber(kind, line, n));
                break;
            case 4:
                Check.due(where + "clearLine " + kind + " " + line, x.clearLine(kind, line), m.clearLine(kind, line));
                break;
            case 5:
                int v = argument(3);
                Check.due(where + "setGiven " + r + " " + c + " " + v, x.setGiven(r, c, v), m.setGiven(r, c, v));
                break;
            case 6: case 7:
                Check.due(where + "propagate", x.propagate(), m.propagate());
                break;
            case 8: case 9:
                Check.due(where + "solve", x.solve(), m.solve());
                break;
            case 10:
                int i = argument(4);
                Check.due(where + "clueCount " + kind + " " + line, x.clueCount(kind, line), m.clueCount(kind, line));
                Check.due(where + "clueNumber " + kind + " " + line + " " + i, x.clueNumber(kind, line, i),
                    m.clueNumber(kind, line, i));
                break;
            default:
                int k = argument(2);
                Check.due(where + "given " + r + " " + c, x.given(r, c), m.given(r, c));
                Check.due(where + "known " + r + " " + c, x.known(r, c), m.known(r, c));
                Check.due(where + "solutionCell " + k + " " + r + " " + c, x.solutionCell(k, r, c), m.solutionCell(k, r, c));
        }
    }

    private static void puzzlesOfEverySize() {
        int[] verdicts = new int[3];
        int[] statuses = new int[7];
        for (int run = 0; run < 1500 && Check.wrongAnswers() < 20; run++) {
            Model m = new Model(1 + next(8), 1 + next(8));
            NonogramSolver x = new NonogramSolver(m.rows, m.cols);
            setClues(x, m, 3 + next(5), next(4) == 0);
            setGivens(x, m, next(6));
            String puzzle = "run " + run + ": " + m.state();
            Check.due(puzzle + " propagate()", x.propagate(), m.propagate());
            Check.due(puzzle + " solve()", x.solve(), m.solve());
            Check.due("state after " + puzzle, Puzzles.state(x), m.state());
            verdicts[m.verdict]++;
            statuses[m.status]++;
        }
        for (int verdict = 0; verdict < 3; verdict++) {
            Check.due("enough puzzles with verdict " + verdict, verdicts[verdict] > 50, true);
        }
        for (int status = 4; status < 7; status++) {
            Check.due("enough puzzles with status " + status, statuses[status] > 50, true);
        }
    }

    /** The clues of a grid with some of its cells filled, so that there is a solution; or of one with a line changed. */
    private static void setClues(NonogramSolver x, Model m, int tenths, boolean spoilt) {
        int[][] grid = new int[m.rows][m.cols];
        for (int r = 0; r < m.rows; r++) {
            for (int c = 0; c < m.cols; c++) {
                grid[r][c] = next(10) < tenths ? NonogramSolver.FILLED : NonogramSolver.EMPTY;
            }
        }
        for (int r = 0; r < m.rows; r++) {
            add(x, m, 0, r, Model.runs(grid[r]));
        }
        // Two cells that change places keep the number of FILLED cells, which a plain count would see through.
        if (spoilt) {
            int r = next(m.rows);
            int from = next(m.cols);
            int to = next(m.cols);
            int kept = grid[r][from];
            grid[r][from] = grid[r][to];
            grid[r][to] = kept;
            int other = next(m.rows);
            if (next(2) == 0) {
                grid[other][from] = NonogramSolver.EMPTY;
            }
        }
        for (int c = 0; c < m.cols; c++) {
            int[] line = new int[m.rows];
            for (int r = 0; r < m.rows; r++) {
                line[r] = grid[r][c];
            }
            add(x, m, 1, c, Model.runs(line));
        }
    }

    private static void add(NonogramSolver x, Model m, int kind, int line, List<Integer> clue) {
        for (int n : clue) {
            Check.due("addNumber " + kind + " " + line + " " + n, x.addNumber(kind, line, n), m.addNumber(kind, line, n));
        }
    }

    private static void setGivens(NonogramSolver x, Model m, int count) {
        for (int i = 0; i < count; i++) {
            int r = next(m.rows);
            int c = next(m.cols);
            int v = next(3);
            Check.due("setGiven " + r + " " + c + " " + v, x.setGiven(r, c, v), m.setGiven(r, c, v));
        }
    }
}
