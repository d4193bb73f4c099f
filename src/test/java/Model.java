import java.util.ArrayList;
import java.util.List;

/** The document's words done the slow and plain way, to compare the program with. */
final class Model {
    final int rows;
    final int cols;
    final List<List<Integer>> rowClues = new ArrayList<>();
    final List<List<Integer>> colClues = new ArrayList<>();
    final int[][] givens;
    int status;
    int[][] known;
    int verdict;
    int[][][] stored;

    Model(int rows, int cols) {
        this.rows = Math.max(1, Math.min(8, rows));
        this.cols = Math.max(1, Math.min(8, cols));
        for (int r = 0; r < this.rows; r++) {
            rowClues.add(new ArrayList<>());
        }
        for (int c = 0; c < this.cols; c++) {
            colClues.add(new ArrayList<>());
        }
        givens = new int[this.rows][this.cols];
        reset();
    }

    private void reset() {
        status = NonogramSolver.NOT_RUN;
        known = new int[rows][cols];
        verdict = NonogramSolver.NOT_RUN;
        stored = new int[2][rows][cols];
    }

    private List<Integer> clue(int kind, int line) {
        List<List<Integer>> clues = kind == 0 ? rowClues : kind == 1 ? colClues : List.of();
        return line >= 0 && line < clues.size() ? clues.get(line) : null;
    }

    boolean addNumber(int kind, int line, int n) {
        List<Integer> clue = clue(kind, line);
        if (clue == null) {
            return false;
        }
        long length = kind == 0 ? cols : rows;
        long sum = n;
        for (int m : clue) {
            sum += m;
        }
        if (n < 1 || n > length || clue.size() >= 4 || sum + clue.size() > length) {
            return false;
        }
        clue.add(n);
        reset();
        return true;
    }

    boolean clearLine(int kind, int line) {
        List<Integer> clue = clue(kind, line);
        if (clue == null) {
            return false;
        }
        clue.clear();
        reset();
        return true;
    }

    int clueCount(int kind, int line) {
        List<Integer> clue = clue(kind, line);
        return clue == null ? -1 : clue.size();
    }

    int clueNumber(int kind, int line, int i) {
        List<Integer> clue = clue(kind, line);
        return clue == null || i < 0 || i >= clue.size() ? -1 : clue.get(i);
    }

    boolean isCell(int r, int c) {
        return r >= 0 && r < rows && c >= 0 && c < cols;
    }

    boolean setGiven(int r, int c, int v) {
        if (!isCell(r, c) || v < 0 || v > 2) {
            return false;
        }
        givens[r][c] = v;
        reset();
        return true;
    }

    int given(int r, int c) {
        return isCell(r, c) ? givens[r][c] : -1;
    }

    int known(int r, int c) {
        return isCell(r, c) ? known[r][c] : -1;
    }

    int knownCount() {
        int count = 0;
        for (int[] row : known) {
            for (int v : row) {
                count += v == 0 ? 0 : 1;
            }
        }
        return count;
    }

    int solutionCell(int k, int r, int c) {
        return (k == 0 || k == 1) && isCell(r, c) ? stored[k][r][c] : -1;
    }

    /** The runs of FILLED cells of a line with every cell decided. */
    static List<Integer> runs(int[] line) {
        List<Integer> runs = new ArrayList<>();
        int run = 0;
        for (int v : line) {
            if (v == NonogramSolver.FILLED) {
                run++;
            } else if (run > 0) {
                runs.add(run);
                run = 0;
            }
        }
        if (run > 0) {
            runs.add(run);
        }
        return runs;
    }

    /** All fillings of a line that satisfy its clue and agree with its decided cells, in grid order. */
    static List<int[]> consistent(List<Integer> clue, int[] line) {
        List<int[]> found = new ArrayList<>();
        for (int bits = 0; bits < 1 << line.length; bits++) {
            int[] filling = new int[line.length];
            boolean agrees = true;
            for (int i = 0; i < line.length; i++) {
                filling[i] = (bits >> (line.length - 1 - i) & 1) == 1 ? NonogramSolver.FILLED : NonogramSolver.EMPTY;
                agrees &= line[i] == NonogramSolver.UNKNOWN || line[i] == filling[i];
            }
            if (agrees && runs(filling).equals(clue)) {
                found.add(filling);
            }
        }
        return found;
    }

    private static int[] column(int[][] grid, int c) {
        int[] line = new int[grid.length];
        for (int r = 0; r < grid.length; r++) {
            line[r] = grid[r][c];
        }
        return line;
    }

    private static int[][] copy(int[][] grid) {
        int[][] copy = new int[grid.length][];
        for (int r = 0; r < grid.length; r++) {
            copy[r] = grid[r].clone();
        }
        return copy;
    }

    /** A step: answers the line after it, or null on a contradiction. */
    private static int[] step(List<Integer> clue, int[] line) {
        List<int[]> fillings = consistent(clue, line);
        if (fillings.isEmpty()) {
            return null;
        }
        int[] after = line.clone();
        for (int i = 0; i < line.length; i++) {
            boolean same = true;
            for (int[] filling : fillings) {
                same &= filling[i] == fillings.get(0)[i];
            }
            if (same) {
                after[i] = fillings.get(0)[i];
            }
        }
        return after;
    }

    int propagate() {
        int[][] grid = copy(givens);
        boolean changed = true;
        boolean contradiction = false;
        while (changed && !contradiction) {
            changed = false;
            // Columns first and backwards, for another order than the program's.
            for (int c = cols - 1; c >= 0 && !contradiction; c--) {
                int[] after = step(colClues.get(c), column(grid, c));
                contradiction = after == null;
                for (int r = 0; r < rows && !contradiction; r++) {
                    changed |= grid[r][c] != after[r];
                    grid[r][c] = after[r];
                }
            }
            for (int r = rows - 1; r >= 0 && !contradiction; r--) {
                int[] after = step(rowClues.get(r), grid[r]);
                contradiction = after == null;
                if (!contradiction) {
                    changed |= !java.util.Arrays.equals(after, grid[r]);
                    grid[r] = after;
                }
            }
        }
        known = contradiction ? new int[rows][cols] : grid;
        status = contradiction ? NonogramSolver.CONTRADICTION
            : knownCount() == rows * cols ? NonogramSolver.COMPLETE : NonogramSolver.STALLED;
        return status;
    }

    int solve() {
        stored = new int[2][rows][cols];
        List<List<int[]>> rowFillings = new ArrayList<>();
        for (int r = 0; r < rows; r++) {
            rowFillings.add(consistent(rowClues.get(r), givens[r]));
        }
        List<List<int[]>> colFillings = new ArrayList<>();
        for (int c = 0; c < cols; c++) {
            colFillings.add(consistent(colClues.get(c), column(givens, c)));
        }
        verdict = search(new int[rows][], 0, 0, rowFillings, colFillings);
        return verdict;
    }

    /** Fills row by row in grid order, as long as every column can still be filled out; answers how many are stored. */
    private int search(int[][] grid, int r, int found, List<List<int[]>> rowFillings, List<List<int[]>> colFillings) {
        if (r == rows) {
            stored[found] = copy(grid);
            return found + 1;
        }
        for (int[] filling : rowFillings.get(r)) {
            grid[r] = filling;
            List<List<int[]>> left = new ArrayList<>();
            boolean open = true;
            for (int c = 0; c < cols && open; c++) {
                List<int[]> fits = new ArrayList<>();
                for (int[] col : colFillings.get(c)) {
                    if (col[r] == filling[c]) {
                        fits.add(col);
                    }
                }
                left.add(fits);
                open = !fits.isEmpty();
            }
            if (open) {
                found = search(grid, r + 1, found, rowFillings, left);
            }
            if (found == 2) {
                return 2;
            }
        }
        return found;
    }

    /** The verdict by trying every grid there is, for grids of few cells: a check on solve() above. */
    int verdictByEveryGrid(int[][][] firstTwo) {
        int found = 0;
        int size = rows * cols;
        for (long bits = 0; bits < 1L << size && found < 2; bits++) {
            int[][] grid = new int[rows][cols];
            for (int i = 0; i < size; i++) {
                grid[i / cols][i % cols] = (bits >> (size - 1 - i) & 1) == 1 ? NonogramSolver.FILLED : NonogramSolver.EMPTY;
            }
            if (isSolution(grid)) {
                firstTwo[found] = grid;
                found++;
            }
        }
        return found;
    }

    boolean isSolution(int[][] grid) {
        boolean good = true;
        for (int r = 0; r < rows; r++) {
            good &= runs(grid[r]).equals(rowClues.get(r));
            for (int c = 0; c < cols; c++) {
                good &= givens[r][c] == NonogramSolver.UNKNOWN || givens[r][c] == grid[r][c];
            }
        }
        for (int c = 0; c < cols; c++) {
            good &= runs(column(grid, c)).equals(colClues.get(c));
        }
        return good;
    }

    /** The same text as Puzzles.state makes of the program. */
    String state() {
        StringBuilder text = new StringBuilder(rows + "x" + cols);
        for (int r = 0; r < rows; r++) {
            text.append(" r").append(r).append(':').append(list(rowClues.get(r)));
        }
        for (int c = 0; c < cols; c++) {
            text.append(" c").append(c).append(':').append(list(colClues.get(c)));
        }
        return text + " givens " + text(givens) + " status " + status + " known " + knownCount() + " " + text(known)
            + " verdict " + verdict + " stored " + text(stored[0]) + " and " + text(stored[1]);
    }

    private static String list(List<Integer> clue) {
        StringBuilder text = new StringBuilder();
        for (int n : clue) {
            text.append(text.length() == 0 ? "" : ",").append(n);
        }
        return text.toString();
    }

    private static String text(int[][] grid) {
        StringBuilder text = new StringBuilder();
        for (int r = 0; r < grid.length; r++) {
            text.append(r == 0 ? "" : "/");
            for (int v : grid[r]) {
                text.append("?.#".charAt(v));
            }
        }
        return text.toString();
    }
}
