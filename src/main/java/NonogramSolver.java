/** A solver of paint-by-numbers puzzles of at most eight by eight cells. */
public final class NonogramSolver {
    public static final int ROW = 0;
    public static final int COL = 1;
    public static final int UNKNOWN = 0;
    public static final int EMPTY = 1;
    public static final int FILLED = 2;
    public static final int INVALID = -1;
    public static final int MAX_SIZE = 8;
    public static final int MAX_NUMBERS = 4;
    public static final int NO_SOLUTION = 0;
    public static final int UNIQUE = 1;
    public static final int MULTIPLE = 2;
    public static final int NOT_RUN = 3;
    public static final int CONTRADICTION = 4;
    public static final int COMPLETE = 5;
    public static final int STALLED = 6;

    // Cell (r,c) has index r * MAX_SIZE + c whatever the size of the grid; cells outside it stay UNKNOWN.
    private static final int CELLS = MAX_SIZE * MAX_SIZE;
    private static final int STORED_GRIDS = 2;
    private static final int STORED_CELLS = STORED_GRIDS * CELLS;
    private static final int BRANCH_GRID_CELLS = CELLS * CELLS;

    // Lines are numbered through: row r is line r, column c is line MAX_SIZE + c.
    private static final int LINES = 2 * MAX_SIZE;
    private static final int CLUE_PLACES = LINES * MAX_NUMBERS;

    // A filling of a line is a set of bits: bit i is on when the line's cell i is FILLED.
    private static final int MAX_FILLINGS = 1 << MAX_SIZE;
    private static final int FILLING_PLACES = LINES * MAX_FILLINGS;

    // The search branches on a cell before which every row is filled as its clue asks. No clue has more than
    // 21 fillings, so it looks at no more than 2 * 8 * (21 + 21^2 + .. + 21^8) + 1 < 2^40 partial grids.
    private static final long SEARCH_BOUND = 1L << 48;

    private final int rowCount;
    private final int colCount;

    private final int[] clueCounts = new int[LINES];
    private final int[] clueNumbers = new int[CLUE_PLACES];
    private final int[] givens = new int[CELLS];

    private int status = NOT_RUN;
    private final int[] knownCells = new int[CELLS];

    private int searchVerdict = NOT_RUN;
    private final int[] storedCells = new int[STORED_CELLS];

    // From here on: what propagate() and solve() work with. Nothing of it outlives the call.
    private final int[] fillingCounts = new int[LINES];
    private final int[] fillings = new int[FILLING_PLACES];
    private final int[] cells = new int[CELLS];
    private int pendingLines = 0;
    private final int[] branchCells = new int[CELLS];
    private final int[] branchGrids = new int[BRANCH_GRID_CELLS];

    public NonogramSolver(int rows, int cols) {
        rowCount = clampSize(rows);
        colCount = clampSize(cols);
    }

    public int rows() {
        return rowCount;
    }

    public int cols() {
        return colCount;
    }

    public boolean addNumber(int kind, int line, int n) {
        int at = lineIndex(kind, line);
        if (at == INVALID) {
            return false;
        }
        int length = lineLength(at);
        int count = clueCounts[at];
        if (n < 1 || n > length || count >= MAX_NUMBERS) {
            return false;
        }
        // One gap before the new number for each number that is there already.
        if (clueSum(at) + n + count > length) {
            return false;
        }
        clueNumbers[at * MAX_NUMBERS + count] = n;
        clueCounts[at] = count + 1;
        resetResults();
        return true;
    }

    public boolean clearLine(int kind, int line) {
        int at = lineIndex(kind, line);
        if (at == INVALID) {
            return false;
        }
        clueCounts[at] = 0;
        resetResults();
        return true;
    }

    public int clueCount(int kind, int line) {
        int at = lineIndex(kind, line);
        return at == INVALID ? INVALID : clueCounts[at];
    }

    public int clueNumber(int kind, int line, int i) {
        int at = lineIndex(kind, line);
        if (at == INVALID || i < 0 || i >= clueCounts[at]) {
            return INVALID;
        }
        return clueNumbers[at * MAX_NUMBERS + i];
    }

    public boolean setGiven(int r, int c, int v) {
        int cell = cellIndex(r, c);
        if (cell == INVALID || (v != UNKNOWN && v != EMPTY && v != FILLED)) {
            return false;
        }
        givens[cell] = v;
        resetResults();
        return true;
    }

    public int given(int r, int c) {
        int cell = cellIndex(r, c);
        return cell == INVALID ? INVALID : givens[cell];
    }

    public int propagate() {
        startFromGivens();
        boolean consistent = settle();
        for (int cell = 0; cell < CELLS; cell++) {
            knownCells[cell] = consistent ? cells[cell] : UNKNOWN;
        }
        if (!consistent) {
            status = CONTRADICTION;
        } else if (firstUnknownCell() == INVALID) {
            status = COMPLETE;
        } else {
            status = STALLED;
        }
        return status;
    }

    public int propagateStatus() {
        return status;
    }

    public int known(int r, int c) {
        int cell = cellIndex(r, c);
        return cell == INVALID ? INVALID : knownCells[cell];
    }

    public int knownCount() {
        int count = 0;
        for (int cell = 0; cell < CELLS; cell++) {
            if (knownCells[cell] != UNKNOWN) {
                count++;
            }
        }
        return count;
    }

    public int solve() {
        clearStoredGrids();
        startFromGivens();
        int found = clueTotalsAgree() ? storeFirstSolutions() : 0;
        if (found == 0) {
            searchVerdict = NO_SOLUTION;
        } else if (found == 1) {
            searchVerdict = UNIQUE;
        } else {
            searchVerdict = MULTIPLE;
        }
        return searchVerdict;
    }

    public int verdict() {
        return searchVerdict;
    }

    public int solutionCell(int k, int r, int c) {
        int cell = cellIndex(r, c);
        if (k < 0 || k >= STORED_GRIDS || cell == INVALID) {
            return INVALID;
        }
        return storedCells[k * CELLS + cell];
    }

    private static int clampSize(int size) {
        if (size < 1) {
            return 1;
        }
        return size > MAX_SIZE ? MAX_SIZE : size;
    }

    private int lineIndex(int kind, int line) {
        if (kind == ROW && line >= 0 && line < rowCount) {
            return line;
        }
        if (kind == COL && line >= 0 && line < colCount) {
            return MAX_SIZE + line;
        }
        return INVALID;
    }

    private int cellIndex(int r, int c) {
        if (r < 0 || r >= rowCount || c < 0 || c >= colCount) {
            return INVALID;
        }
        return r * MAX_SIZE + c;
    }

    private int lineLength(int at) {
        return at < MAX_SIZE ? colCount : rowCount;
    }

    private boolean isInGrid(int at) {
        return at < MAX_SIZE ? at < rowCount : at - MAX_SIZE < colCount;
    }

    private static int lineCell(int at, int i) {
        return at < MAX_SIZE ? at * MAX_SIZE + i : i * MAX_SIZE + at - MAX_SIZE;
    }

    private static int crossingLine(int at, int i) {
        return at < MAX_SIZE ? MAX_SIZE + i : i;
    }

    private int clueSum(int at) {
        int sum = 0;
        for (int i = 0; i < clueCounts[at]; i++) {
            sum += clueNumbers[at * MAX_NUMBERS + i];
        }
        return sum;
    }

    private void resetResults() {
        status = NOT_RUN;
        for (int cell = 0; cell < CELLS; cell++) {
            knownCells[cell] = UNKNOWN;
        }
        searchVerdict = NOT_RUN;
        clearStoredGrids();
    }

    private void clearStoredGrids() {
        for (int i = 0; i < STORED_CELLS; i++) {
            storedCells[i] = UNKNOWN;
        }
    }

    private void startFromGivens() {
        for (int cell = 0; cell < CELLS; cell++) {
            cells[cell] = givens[cell];
        }
        pendingLines = 0;
        for (int at = 0; at < LINES; at++) {
            if (isInGrid(at)) {
                listFillings(at);
                pendingLines |= 1 << at;
            }
        }
    }

    private void listFillings(int at) {
        int count = 0;
        int end = 1 << lineLength(at);
        for (int filling = 0; filling < end; filling++) {
            if (satisfiesClue(at, filling)) {
                fillings[at * MAX_FILLINGS + count] = filling;
                count++;
            }
        }
        fillingCounts[at] = count;
    }

    private boolean satisfiesClue(int at, int filling) {
        int runs = 0;
        int run = 0;
        // The bit behind the line's last cell is off, which ends a run that reaches the line's end.
        for (int i = 0; i <= MAX_SIZE; i++) {
            if (((filling >> i) & 1) == 1) {
                run++;
            } else if (run > 0) {
                if (runs >= clueCounts[at] || clueNumbers[at * MAX_NUMBERS + runs] != run) {
                    return false;
                }
                runs++;
                run = 0;
            }
        }
        return runs == clueCounts[at];
    }

    /** Applies steps to the pending lines until none is left; answers false on a contradiction. */
    private boolean settle() {
        // A round that decides no cell leaves no line pending, so the last round is at most number CELLS.
        for (int round = 0; round <= CELLS && pendingLines != 0; round++) {
            for (int at = 0; at < LINES; at++) {
                if (((pendingLines >> at) & 1) == 1 && !stepLine(at)) {
                    return false;
                }
            }
        }
        return true;
    }

    private boolean stepLine(int at) {
        pendingLines &= ~(1 << at);
        int mustFill = lineCellsOf(at, FILLED);
        int mustEmpty = lineCellsOf(at, EMPTY);
        int canFill = 0;
        int canEmpty = 0;
        boolean consistent = false;
        for (int k = 0; k < fillingCounts[at]; k++) {
            int filling = fillings[at * MAX_FILLINGS + k];
            if ((mustFill & ~filling) == 0 && (mustEmpty & filling) == 0) {
                consistent = true;
                canFill |= filling;
                canEmpty |= ~filling;
            }
        }
        if (consistent) {
            decideCells(at, ~canEmpty, ~canFill);
        }
        return consistent;
    }

    private int lineCellsOf(int at, int value) {
        int bits = 0;
        int length = lineLength(at);
        for (int i = 0; i < length; i++) {
            if (cells[lineCell(at, i)] == value) {
                bits |= 1 << i;
            }
        }
        return bits;
    }

    private void decideCells(int at, int alwaysFilled, int alwaysEmpty) {
        int length = lineLength(at);
        for (int i = 0; i < length; i++) {
            int cell = lineCell(at, i);
            boolean agreed = (((alwaysFilled | alwaysEmpty) >> i) & 1) == 1;
            if (cells[cell] == UNKNOWN && agreed) {
                cells[cell] = ((alwaysFilled >> i) & 1) == 1 ? FILLED : EMPTY;
                // Only the crossing line can learn from this: a second step on this line would find the same fillings.
                pendingLines |= 1 << crossingLine(at, i);
            }
        }
    }

    private int firstUnknownCell() {
        for (int r = 0; r < rowCount; r++) {
            for (int c = 0; c < colCount; c++) {
                int cell = r * MAX_SIZE + c;
                if (cells[cell] == UNKNOWN) {
                    return cell;
                }
            }
        }
        return INVALID;
    }

    // Every solution has as many FILLED cells as the row clues say, and as the column clues say.
    // Steps on single lines see a difference only late, after a search through very many grids.
    private boolean clueTotalsAgree() {
        int difference = 0;
        for (int at = 0; at < LINES; at++) {
            int sum = clueSum(at);
            difference += at < MAX_SIZE ? sum : -sum;
        }
        return difference == 0;
    }

    /** Stores the first two solutions, or as many as there are, and answers how many it stored. */
    private int storeFirstSolutions() {
        int found = 0;
        int depth = 0;
        // Trying the first unknown cell EMPTY before FILLED meets the solutions in grid order.
        for (long looks = 0; looks < SEARCH_BOUND; looks++) {
            boolean consistent = settle();
            int cell = consistent ? firstUnknownCell() : INVALID;
            if (cell != INVALID && depth < CELLS) {
                keepBranch(depth, cell);
                depth++;
                assumeCell(cell, EMPTY);
                continue;
            }
            if (consistent) {
                storeSolution(found);
                found++;
            }
            if (found == STORED_GRIDS || depth == 0) {
                break;
            }
            depth--;
            takeBackBranch(depth);
            assumeCell(branchCells[depth], FILLED);
        }
        return found;
    }

    private void keepBranch(int depth, int branchCell) {
        branchCells[depth] = branchCell;
        for (int cell = 0; cell < CELLS; cell++) {
            branchGrids[depth * CELLS + cell] = cells[cell];
        }
    }

    private void takeBackBranch(int depth) {
        for (int cell = 0; cell < CELLS; cell++) {
            cells[cell] = branchGrids[depth * CELLS + cell];
        }
    }

    private void assumeCell(int cell, int value) {
        cells[cell] = value;
        // The grid was settled before, so only the two lines through this cell can say something new.
        int row = cell / MAX_SIZE;
        int col = cell % MAX_SIZE;
        pendingLines = (1 << row) | (1 << (MAX_SIZE + col));
    }

    private void storeSolution(int k) {
        for (int cell = 0; cell < CELLS; cell++) {
            storedCells[k * CELLS + cell] = cells[cell];
        }
    }
}
