import java.util.List;

/** Each sentence of promise 3 that names a boundary case. */
public final class Promise03Test {
    private static final int ROW = NonogramSolver.ROW;
    private static final int COL = NonogramSolver.COL;

    private Promise03Test() {
    }

    public static void main(String[] args) {
        Sentence.test("The following conditions are considered in order; if any one fails, the call answers `false` and"
            + " changes nothing", Promise03Test::anyFailureChangesNothing);
        Sentence.test("`kind` is ROW or COL (any other value, e.g. 2 or -1, fails).", Promise03Test::otherKindsFail);
        Sentence.test("`0 <= line < rows()` when `kind` is ROW", Promise03Test::rowsOutOfRangeFail);
        Sentence.test("`0 <= line < cols()` when `kind` is COL.", Promise03Test::columnsOutOfRangeFail);
        Sentence.test("`1 <= n <=` the line's length (so 0, negative values and values above the length fail).",
            Promise03Test::numbersOutOfRangeFail);
        Sentence.test("The clue has fewer than 4 numbers (a clue holding 4 numbers is full).", Promise03Test::fullClueFails);
        Sentence.test("(sum of the clue's numbers + `n`) + (number of numbers after appending - 1) `<=` the line's length.",
            Promise03Test::takesWhatJustFits);
        Sentence.test("That is, the numbers, with at least one cell between consecutive runs, must fit into the line.",
            Promise03Test::oneCellBetweenRuns);
        Sentence.test("Otherwise it appends `n` as the last number of that clue, resets both results, and answers `true`.",
            Promise03Test::appendsAndResets);
        Sentence.test("No other clue and no given changes.", Promise03Test::nothingElseChanges);
        Sentence.test("As a consequence, every clue always has at least one filling of its own line that satisfies it.",
            Promise03Test::everyClueHasAFilling);
        Check.end();
    }

    private static String call(int kind, int line, int n) {
        return "addNumber(" + kind + ", " + line + ", " + n + ")";
    }

    private static void refuses(States.State state, int kind, int line, int n) {
        state.refuses(call(kind, line, n), x -> x.addNumber(kind, line, n));
    }

    /** Two, three or all of the conditions fail at once. */
    private static void anyFailureChangesNothing() {
        for (States.State state : States.all()) {
            refuses(state, 2, -1, 0);
            refuses(state, -1, 8, 9);
            refuses(state, 2, 0, 0);
            refuses(state, ROW, -1, 0);
            refuses(state, ROW, 8, 9);
            refuses(state, COL, -1, -1);
            refuses(state, COL, 8, Integer.MAX_VALUE);
            refuses(state, Integer.MIN_VALUE, Integer.MIN_VALUE, Integer.MIN_VALUE);
            refuses(state, Integer.MAX_VALUE, Integer.MAX_VALUE, Integer.MAX_VALUE);
        }
    }

    private static void otherKindsFail() {
        for (States.State state : States.all()) {
            for (int kind : States.neither0Nor1()) {
                refuses(state, kind, 0, 1);
            }
            // What an index made of kind and line could take for row 0 or column 0.
            refuses(state, -1, 8, 1);
            refuses(state, -1, 16, 1);
            refuses(state, 2, -8, 1);
            refuses(state, 2, -16, 1);
        }
    }

    private static void rowsOutOfRangeFail() {
        for (States.State state : States.all()) {
            for (int line : States.outside(state.make().rows())) {
                refuses(state, ROW, line, 1);
            }
        }
        for (int rows = 1; rows <= 8; rows++) {
            NonogramSolver x = new NonogramSolver(rows, 9 - rows);
            Check.due("the row before the first of " + rows, x.addNumber(ROW, -1, 1), false);
            Check.due("the first row of " + rows, x.addNumber(ROW, 0, 1), true);
            Check.due("the row behind the last of " + rows, x.addNumber(ROW, rows, 1), false);
            NonogramSolver y = new NonogramSolver(rows, 9 - rows);
            Check.due("the last row of " + rows, y.addNumber(ROW, rows - 1, 1), true);
        }
    }

    private static void columnsOutOfRangeFail() {
        for (States.State state : States.all()) {
            for (int line : States.outside(state.make().cols())) {
                refuses(state, COL, line, 1);
            }
        }
        for (int cols = 1; cols <= 8; cols++) {
            NonogramSolver x = new NonogramSolver(9 - cols, cols);
            Check.due("the column before the first of " + cols, x.addNumber(COL, -1, 1), false);
            Check.due("the first column of " + cols, x.addNumber(COL, 0, 1), true);
            Check.due("the column behind the last of " + cols, x.addNumber(COL, cols, 1), false);
            NonogramSolver y = new NonogramSolver(9 - cols, cols);
            Check.due("the last column of " + cols, y.addNumber(COL, cols - 1, 1), true);
        }
    }

    private static void numbersOutOfRangeFail() {
        for (States.State state : States.all()) {
            NonogramSolver sized = state.make();
            for (int kind = ROW; kind <= COL; kind++) {
                int length = kind == ROW ? sized.cols() : sized.rows();
                refuses(state, kind, 0, 0);
                for (int n : States.outside(length + 1)) {
                    refuses(state, kind, 0, n);
                }
            }
        }
        for (int length = 1; length <= 8; length++) {
            for (int n = -9; n <= 9; n++) {
                boolean due = n >= 1 && n <= length;
                Check.due(n + " into a row of " + length, new NonogramSolver(9 - length, length).addNumber(ROW, 0, n), due);
                Check.due(n + " into a column of " + length, new NonogramSolver(length, 9 - length).addNumber(COL, 0, n), due);
            }
        }
    }

    private static void fullClueFails() {
        int[][] full = {{1, 1, 1, 1}, {2, 1, 1, 1}, {1, 2, 1, 1}, {1, 1, 2, 1}, {1, 1, 1, 2}};
        for (int kind = ROW; kind <= COL; kind++) {
            for (int line = 0; line < 8; line += 7) {
                for (int[] numbers : full) {
                    NonogramSolver x = new NonogramSolver(8, 8);
                    for (int i = 0; i < 4; i++) {
                        Check.due("number " + i + " by " + call(kind, line, numbers[i]), x.addNumber(kind, line, numbers[i]),
                            true);
                    }
                    x.propagate();
                    x.solve();
                    String before = Puzzles.state(x);
                    for (int n = 1; n <= 8; n++) {
                        Check.due(call(kind, line, n) + " to a full clue", x.addNumber(kind, line, n), false);
                        Check.due("state after it", Puzzles.state(x), before);
                    }
                    Check.due("clueCount of a full clue", x.clueCount(kind, line), 4);
                }
            }
        }
    }

    /** Every clue of every length, and after it every number: up to what just fits, and from the first that does not. */
    private static void takesWhatJustFits() {
        for (int length = 1; length <= 8; length++) {
            for (String clue : SmallPuzzles.clues(length)) {
                for (int n = 1; n <= length; n++) {
                    fits(ROW, length, clue, n);
                    fits(COL, length, clue, n);
                }
            }
        }
        wrapAroundDoesNotFit();
    }

    private static void fits(int kind, int length, String clue, int n) {
        NonogramSolver x = kind == ROW ? Puzzles.puzzle("- " + clue, blankClues(length))
            : Puzzles.puzzle(blankClues(length), "- " + clue);
        int sum = n;
        int count = 1;
        for (int i = 0; i < x.clueCount(kind, 1); i++) {
            sum += x.clueNumber(kind, 1, i);
            count++;
        }
        boolean due = count <= 4 && sum + count - 1 <= length;
        x.solve();
        String before = Puzzles.state(x);
        String what = n + " after " + clue + " in length " + length + " of kind " + kind;
        Check.due(what, x.addNumber(kind, 1, n), due);
        Check.due("the count after " + what, x.clueCount(kind, 1), due ? count : count - 1);
        if (!due) {
            Check.due("state after refused " + what, Puzzles.state(x), before);
        }
    }

    private static void wrapAroundDoesNotFit() {
        for (int kind = ROW; kind <= COL; kind++) {
            NonogramSolver x = new NonogramSolver(8, 8);
            x.addNumber(kind, 0, 2);
            x.addNumber(kind, 0, 1);
            for (int less = 0; less <= 9; less++) {
                int n = Integer.MAX_VALUE - less;
                Check.due(call(kind, 0, n) + " after 2,1", x.addNumber(kind, 0, n), false);
            }
            Check.due("the count after numbers whose sum wraps around", x.clueCount(kind, 0), 2);
        }
    }

    private static String blankClues(int count) {
        return "- ".repeat(count).trim();
    }

    private static void oneCellBetweenRuns() {
        for (int kind = ROW; kind <= COL; kind++) {
            NonogramSolver x = new NonogramSolver(8, 8);
            Check.due("4 into 8 cells", x.addNumber(kind, 0, 4), true);
            Check.due("4 after 4 into 8 cells, with no cell between them", x.addNumber(kind, 0, 4), false);
            Check.due("3 after 4 into 8 cells, with one cell between them", x.addNumber(kind, 0, 3), true);
            Check.due("1 after 4,3 into 8 cells", x.addNumber(kind, 0, 1), false);
            NonogramSolver two = new NonogramSolver(2, 2);
            Check.due("1 into 2 cells", two.addNumber(kind, 0, 1), true);
            Check.due("1 after 1 into 2 cells", two.addNumber(kind, 0, 1), false);
            NonogramSolver three = new NonogramSolver(3, 3);
            Check.due("1 into 3 cells", three.addNumber(kind, 0, 1), true);
            Check.due("1 after 1 into 3 cells", three.addNumber(kind, 0, 1), true);
        }
    }

    private static void appendsAndResets() {
        for (States.State state : States.all()) {
            NonogramSolver sized = state.make();
            for (int kind = ROW; kind <= COL; kind++) {
                int lines = kind == ROW ? sized.rows() : sized.cols();
                for (int line = 0; line < lines; line++) {
                    if (sized.clueCount(kind, line) == 0) {
                        appendsToEmptyClue(state, kind, line, kind == ROW ? sized.cols() : sized.rows());
                    }
                }
            }
        }
    }

    /** From the empty clue to the one that leaves no room: after each number it is the last one, and the results are reset. */
    private static void appendsToEmptyClue(States.State state, int kind, int line, int length) {
        NonogramSolver x = state.make();
        int room = length;
        for (int i = 0; room >= 1; i++) {
            int n = i == 0 && room == 8 ? 2 : 1;
            String what = state.name + ": " + call(kind, line, n);
            Check.due(what, x.addNumber(kind, line, n), true);
            Check.due(what + ": count", x.clueCount(kind, line), i + 1);
            Check.due(what + ": last number", x.clueNumber(kind, line, i), n);
            Check.due(what + ": results", Puzzles.results(x), Puzzles.resetResults(x));
            room -= n + 1;
            x.propagate();
            x.solve();
        }
        state.resetsAtTrue(call(kind, line, length), y -> y.addNumber(kind, line, length));
    }

    private static void nothingElseChanges() {
        for (States.State state : States.all()) {
            NonogramSolver sized = state.make();
            for (int kind = ROW; kind <= COL; kind++) {
                int lines = kind == ROW ? sized.rows() : sized.cols();
                for (int line = 0; line < lines; line++) {
                    NonogramSolver x = state.make();
                    int count = x.clueCount(kind, line);
                    if (x.addNumber(kind, line, 1)) {
                        String mark = (kind == ROW ? " r" : " c") + line + ":";
                        String due = Puzzles.clues(sized).replace(mark, mark + "*").replaceAll("\\*([^ ]*)",
                            count == 0 ? "1" : "$1,1");
                        Check.due(state.name + ": clues after " + call(kind, line, 1), Puzzles.clues(x), due);
                        Check.due(state.name + ": givens after " + call(kind, line, 1), Puzzles.givens(x),
                            Puzzles.givens(sized));
                    }
                }
            }
        }
    }

    /** Across the line, each clue is set so that the filling that begins as early as can be is a solution. */
    private static void everyClueHasAFilling() {
        for (int length = 1; length <= 8; length++) {
            for (String clue : SmallPuzzles.clues(length)) {
                StringBuilder filling = new StringBuilder();
                for (String n : clue.equals("-") ? List.<String>of() : List.of(clue.split(","))) {
                    filling.append(filling.length() == 0 ? "" : ".").append("#".repeat(Integer.parseInt(n)));
                }
                filling.append(".".repeat(length - filling.length()));
                String across = filling.toString().replace("#", "1 ").replace(".", "- ").trim();
                NonogramSolver row = Puzzles.puzzle(clue, across);
                Check.due("solve() with row " + clue + " of " + length, row.solve(), NonogramSolver.UNIQUE);
                Check.due("its filling", Puzzles.stored(row, 0), filling.toString());
                NonogramSolver col = Puzzles.puzzle(across, clue);
                Check.due("solve() with column " + clue + " of " + length, col.solve(), NonogramSolver.UNIQUE);
                Check.due("its filling", Puzzles.stored(col, 0).replace("/", ""), filling.toString());
            }
        }
    }
}
