/** Promises 11, 12 and 13: search over all solutions, its verdict, the stored grids. */
public final class SearchTest {
    private static final int NO_SOLUTION = NonogramSolver.NO_SOLUTION;
    private static final int UNIQUE = NonogramSolver.UNIQUE;
    private static final int MULTIPLE = NonogramSolver.MULTIPLE;
    private static final int EMPTY = NonogramSolver.EMPTY;
    private static final int FILLED = NonogramSolver.FILLED;
    private static final int UNKNOWN = NonogramSolver.UNKNOWN;

    private SearchTest() {
    }

    public static void main(String[] args) {
        findsNone();
        findsTheOnlyOne();
        findsTheFirstTwo();
        usesGivens();
        hardPuzzles();
        leavesTheRestUntouched();
        verdictFallsBackToNotRun();
        readsStoredGrids();
        Check.end();
    }

    private static void solves(String name, NonogramSolver x, int verdict, String first, String second) {
        for (int i = 0; i < 2; i++) {
            Check.due(name + ": solve()", x.solve(), verdict);
            Check.due(name + ": verdict()", x.verdict(), verdict);
            Check.due(name + ": grid 0", Puzzles.stored(x, 0), first.isEmpty() ? Puzzles.blank(x) : first);
            Check.due(name + ": grid 1", Puzzles.stored(x, 1), second.isEmpty() ? Puzzles.blank(x) : second);
        }
    }

    private static void findsNone() {
        solves("row without column", Puzzles.puzzle("1", "-"), NO_SOLUTION, "", "");
        solves("contradiction", Puzzles.puzzle("4 1,1 2 1,1", "4 1 2,1 1,1"), NO_SOLUTION, "", "");
        solves("stalled", Puzzles.puzzle("2 3 3 2", "2 3 3 1,1"), NO_SOLUTION, "", "");
        solves("nothing known", Puzzles.puzzle("1,1 1 1,1 2", "1 1,1 1,1 2"), NO_SOLUTION, "", "");
        solves("more in the rows", Puzzles.puzzle("1 1 1", "1 1 -"), NO_SOLUTION, "", "");
        solves("more in the columns", Puzzles.puzzle("1 1 -", "1 1 1"), NO_SOLUTION, "", "");
        solves("big", Puzzles.puzzle("2,1 1 3 2 2 1,2 2,1 4", "1 2 1 1,2 1,1,1,1 2 1,3 1,3"), NO_SOLUTION, "", "");
    }

    private static void findsTheOnlyOne() {
        for (int rows = 1; rows <= 8; rows++) {
            for (int cols = 1; cols <= 8; cols++) {
                NonogramSolver x = new NonogramSolver(rows, cols);
                solves("fresh " + rows + "x" + cols, x, UNIQUE, Puzzles.blank(x).replace('?', '.'), "");
            }
        }
        solves("one cell", Puzzles.puzzle("1", "1"), UNIQUE, "#", "");
        solves("plus", Puzzles.puzzle("1 1 5 1 1", "1 1 5 1 1"), UNIQUE, "..#../..#../#####/..#../..#..", "");
        solves("stalled", Puzzles.puzzle("1,1 1,1 2", "2 1 1 2"), UNIQUE, "#..#/#..#/.##.", "");
        solves("nothing known", Puzzles.puzzle("2 2 1,1 2", "2 2 1,1 2"), UNIQUE, ".##./##../#..#/..##", "");
        solves("big", Puzzles.puzzle("1,1 3 2,1,1 1,1,1 1,2,1 1,1 2 1,1", "1,1 2,1 1,1,1 1 1,2,1 1,1 1,2 1,3"), UNIQUE,
            "#...#.../.###..../##...#.#/..#.#.#./.#..##.#/..#....#/......##/....#.#.", "");
    }

    private static void findsTheFirstTwo() {
        solves("two diagonals", Puzzles.puzzle("1 1", "1 1"), MULTIPLE, ".#/#.", "#./.#");
        solves("six permutations", Puzzles.puzzle("1 1 1", "1 1 1"), MULTIPLE, "..#/.#./#..", "..#/#../.#.");
        solves("differ in the last rows", Puzzles.puzzle("2,2 1,1 1 3", "1,1 2,1 1 1,1 2"), MULTIPLE,
            "##.##/.#..#/...#./###..", "##.##/.#..#/#..../.###.");
        solves("wide", Puzzles.puzzle("1 2 1", "1 1 1 1"), MULTIPLE, "...#/.##./#...", "...#/##../..#.");
        // In these two a search goes wrong that looks only at the row of a cell it has tried, not at its column.
        solves("tried cell's column, square", Puzzles.puzzle("1 1,1 1,1 1", "3 1 1 1"), MULTIPLE,
            ".#../#..#/#.#./#...", ".#../#.#./#..#/#...");
        solves("tried cell's column, wide", Puzzles.puzzle("1,1 1 1,1 1,1", "1,1 1 2 1 - 1"), MULTIPLE,
            ".#.#../#...../..#..#/#.#...", "#....#/..#.../#.#.../.#.#..");
        solves("eight permuted", Puzzles.puzzle("1 1 1 1 1 1 1 1", "1 1 1 1 1 1 1 1"), MULTIPLE,
            ".......#/......#./.....#../....#.../...#..../..#...../.#....../#.......",
            ".......#/......#./.....#../....#.../...#..../..#...../#......./.#......");
        solves("big", Puzzles.puzzle("1,2,1 1,1 2,1,1 2 1,1 3 1,1,1 2", "1,1,1,1 2 1,1 2,1 1,2,1 3,1 2 1"), MULTIPLE,
            "#...##.#/...#.#../##.#.#../.##...../#...#.../....###./#.#...#./...##...",
            "#...##.#/.#...#../##.#.#../..##..../#...#.../....###./#.#...#./...##...");
    }

    private static void usesGivens() {
        NonogramSolver x = Puzzles.puzzle("1 1 1", "1 1 1");
        x.setGiven(0, 2, EMPTY);
        solves("EMPTY in the first solution", x, MULTIPLE, ".#./..#/#..", ".#./#../..#");
        x.setGiven(2, 2, FILLED);
        solves("FILLED in the last cell", x, MULTIPLE, ".#./#../..#", "#../.#./..#");
        x.setGiven(0, 0, FILLED);
        solves("one left", x, UNIQUE, "#../.#./..#", "");
        x.setGiven(1, 1, EMPTY);
        solves("none left", x, NO_SOLUTION, "", "");
        x.setGiven(1, 1, UNKNOWN);
        x.setGiven(0, 0, UNKNOWN);
        x.setGiven(0, 2, UNKNOWN);
        x.setGiven(2, 2, UNKNOWN);
        solves("givens taken back", x, MULTIPLE, "..#/.#./#..", "..#/#../.#.");
        NonogramSolver fresh = new NonogramSolver(8, 8);
        fresh.setGiven(7, 7, FILLED);
        solves("FILLED under an empty clue", fresh, NO_SOLUTION, "", "");
        fresh.setGiven(7, 7, EMPTY);
        solves("EMPTY under an empty clue", fresh, UNIQUE, Puzzles.blank(fresh).replace('?', '.'), "");
    }

    /** Puzzles that a search meets many dead ends in: it must end, and end soon. */
    private static void hardPuzzles() {
        solves("hard 1", Puzzles.puzzle("1,1 1,1 1,1 1 1 1,2,1 4 1", "1,1 1,1 1,1 1,1 1,1 1,1 1,1 1,1,1"), NO_SOLUTION, "", "");
        solves("hard 2", Puzzles.puzzle("1,1 1,1 1,1 1 1,1 1 1,3 1,1,1,1", "1,2 1,1 1,1 1,1 1,1 1,1 1,1,1 1,1"),
            NO_SOLUTION, "", "");
        solves("hard 3", Puzzles.puzzle("1,1 1,1 1,1 1,1 1,1 1,1 1,1 1,1", "1,1 1,1 1,1 1,1 1,1 1,1 1,1 1"),
            NO_SOLUTION, "", "");
        NonogramSolver x = Puzzles.puzzle("1,1 1,1 1 1,1 1 3 1,1,1 1,1", "1,1 1,1 1,1 1,1 1,1 1,1 1,1 1,1");
        x.setGiven(6, 0, EMPTY);
        x.setGiven(6, 7, EMPTY);
        solves("hard 4", x, NO_SOLUTION, "", "");
    }

    private static void leavesTheRestUntouched() {
        NonogramSolver x = Puzzles.puzzle("4 1 1", "1 1 2 1 1");
        x.setGiven(1, 2, FILLED);
        x.propagate();
        String clues = Puzzles.clues(x);
        x.solve();
        Check.due("clues after solve()", Puzzles.clues(x), clues);
        Check.due("givens after solve()", Puzzles.givens(x), "?????/??#??/?????");
        Check.due("propagateStatus() after solve()", x.propagateStatus(), NonogramSolver.STALLED);
        Check.due("known cells after solve()", Puzzles.known(x), "?###?/..#../?...?");
        Check.due("knownCount() after solve()", x.knownCount(), 11);

        NonogramSolver never = Puzzles.puzzle("1 1", "1 1");
        never.solve();
        Check.due("propagateStatus() after solve() alone", never.propagateStatus(), NonogramSolver.NOT_RUN);
        Check.due("knownCount() after solve() alone", never.knownCount(), 0);
        Check.due("known cells after solve() alone", Puzzles.known(never), "??/??");
    }

    private static void verdictFallsBackToNotRun() {
        NonogramSolver x = Puzzles.puzzle("1 1 -", "1 1 -");
        Check.due("verdict() before solve()", x.verdict(), NonogramSolver.NOT_RUN);
        Check.due("grid 0 before solve()", Puzzles.stored(x, 0), "???/???/???");
        for (int way = 0; way < 3; way++) {
            Check.due("solve() before the change", x.solve(), MULTIPLE);
            boolean done = way == 0 ? x.setGiven(2, 2, EMPTY)
                : way == 1 ? x.clearLine(NonogramSolver.ROW, 2) : x.addNumber(NonogramSolver.ROW, 2, 1);
            Check.due("the change", done, true);
            Check.due("results after the change", Puzzles.results(x), Puzzles.resetResults(x));
        }
        solves("after the changes", x, NO_SOLUTION, "", "");
        String before = Puzzles.state(x);
        Check.due("a refused addNumber", x.addNumber(2, 0, 1), false);
        Check.due("a refused clearLine", x.clearLine(NonogramSolver.ROW, -1), false);
        Check.due("a refused setGiven", x.setGiven(3, 0, EMPTY), false);
        Check.due("state after refusals", Puzzles.state(x), before);
    }

    private static void readsStoredGrids() {
        NonogramSolver x = Puzzles.puzzle("1 2 1", "1 1 1 1");
        x.solve();
        String before = Puzzles.state(x);
        int[][] wrong = {{-1, 0, 0}, {2, 0, 0}, {3, 1, 1}, {Integer.MIN_VALUE, 0, 0}, {Integer.MAX_VALUE, 0, 0},
            {0, -1, 0}, {0, 3, 0}, {0, 8, 0}, {0, 0, -1}, {0, 0, 4}, {0, 0, 8}, {1, -1, 0}, {1, 3, 0}, {1, 0, -1},
            {1, 0, 4}, {1, -8, 0}, {0, Integer.MIN_VALUE, 0}, {0, Integer.MAX_VALUE, 0}, {1, 0, Integer.MIN_VALUE},
            {1, 0, Integer.MAX_VALUE}, {1 << 26, 0, 0}};
        for (int[] w : wrong) {
            Check.due("solutionCell(" + w[0] + ", " + w[1] + ", " + w[2] + ")", x.solutionCell(w[0], w[1], w[2]),
                NonogramSolver.INVALID);
        }
        Check.due("solutionCell(0, 0, 3)", x.solutionCell(0, 0, 3), FILLED);
        Check.due("solutionCell(0, 1, 0)", x.solutionCell(0, 1, 0), EMPTY);
        Check.due("solutionCell(1, 1, 0)", x.solutionCell(1, 1, 0), FILLED);
        Check.due("solutionCell(1, 2, 0)", x.solutionCell(1, 2, 0), EMPTY);
        Check.due("state after reading", Puzzles.state(x), before);
        NonogramSolver fresh = new NonogramSolver(1, 1);
        Check.due("solutionCell(1, 0, 0) before solve()", fresh.solutionCell(1, 0, 0), UNKNOWN);
        Check.due("solutionCell(2, 0, 0) before solve()", fresh.solutionCell(2, 0, 0), NonogramSolver.INVALID);
        Check.due("solutionCell(0, 1, 0) before solve()", fresh.solutionCell(0, 1, 0), NonogramSolver.INVALID);
    }
}
