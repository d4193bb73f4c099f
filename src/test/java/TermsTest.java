import java.util.List;

/** Each sentence of 'Terms', and of the general rules below it, that names a boundary case. */
public final class TermsTest {
    private static final int ROW = NonogramSolver.ROW;
    private static final int COL = NonogramSolver.COL;
    private static final int EMPTY = NonogramSolver.EMPTY;
    private static final int FILLED = NonogramSolver.FILLED;

    private TermsTest() {
    }

    public static void main(String[] args) {
        Sentence.test("Rows are numbered `0..rows()-1` top to bottom, columns `0..cols()-1` left to right.",
            TermsTest::linesAreNumberedFromZero);
        Sentence.test("Row `r` consists of the cells `(r,0),(r,1),..,(r,cols()-1)` in that order.",
            TermsTest::rowsReadLeftToRight);
        Sentence.test("Column `c` consists of the cells `(0,c),(1,c),..,(rows()-1,c)` in that order.",
            TermsTest::columnsReadTopToBottom);
        Sentence.test("The **length** of a row is `cols()`; the length of a column is `rows()`.", TermsTest::lengths);
        Sentence.test("Every line has a **clue**: a list of 0 to 4 numbers, each at least 1.", TermsTest::clues);
        Sentence.test("It **satisfies** the clue when the lengths of its maximal runs of consecutive FILLED cells, read in line"
            + " order, are exactly the clue's numbers in order.", TermsTest::runsAreExactlyTheNumbers);
        Sentence.test("For an empty clue this means no FILLED cell at all.", TermsTest::emptyClueHasNoFilledCell);
        Sentence.test("Grid A comes before grid B when, at the first listed cell where they differ, A has EMPTY.",
            TermsTest::gridOrder);
        Sentence.test("every call among `addNumber`, `clearLine` and `setGiven` that answers `true` resets both results.",
            TermsTest::trueResetsBothResults);
        Sentence.test("A call that answers `false` .. changes nothing.", TermsTest::falseChangesNothing);
        Sentence.test("A call that answers .. `INVALID` changes nothing.", TermsTest::invalidChangesNothing);
        Sentence.test("Getters (`rows`, `cols`, `clueCount`, `clueNumber`, `given`, `propagateStatus`, `known`, `knownCount`,"
            + " `verdict`, `solutionCell`) change nothing.", TermsTest::gettersChangeNothing);
        Check.end();
    }

    /** The numbers of one row and one column put one cell where they cross. */
    private static void linesAreNumberedFromZero() {
        for (int[] size : new int[][] {{1, 1}, {1, 8}, {8, 1}, {3, 5}, {5, 3}, {8, 8}}) {
            for (int r = 0; r < size[0]; r++) {
                for (int c = 0; c < size[1]; c++) {
                    NonogramSolver x = new NonogramSolver(size[0], size[1]);
                    x.addNumber(ROW, r, 1);
                    x.addNumber(COL, c, 1);
                    x.propagate();
                    x.solve();
                    StringBuilder due = new StringBuilder(Puzzles.blank(x).replace('?', '.'));
                    due.setCharAt(r * (size[1] + 1) + c, '#');
                    String name = size[0] + "x" + size[1] + " with row " + r + " and column " + c;
                    Check.due(name + ": known cells", Puzzles.known(x), due.toString());
                    Check.due(name + ": grid 0", Puzzles.stored(x, 0), due.toString());
                }
            }
        }
    }

    private static void rowsReadLeftToRight() {
        for (int length = 1; length <= 8; length++) {
            for (int bits = 0; bits < 1 << length; bits++) {
                String row = SmallPuzzles.filling(bits, length);
                NonogramSolver x = Puzzles.ofGrid(row);
                x.propagate();
                x.solve();
                Check.due("known cells of one row", Puzzles.known(x), row);
                Check.due("grid 0 of one row", Puzzles.stored(x, 0), row);
            }
        }
        NonogramSolver x = Puzzles.ofGrid("......../#.##.###");
        x.solve();
        Check.due("the row 1,2,3", Puzzles.stored(x, 0), "......../#.##.###");
    }

    private static void columnsReadTopToBottom() {
        for (int length = 1; length <= 8; length++) {
            for (int bits = 0; bits < 1 << length; bits++) {
                String column = Puzzles.turned(SmallPuzzles.filling(bits, length));
                NonogramSolver x = Puzzles.ofGrid(column);
                x.propagate();
                x.solve();
                Check.due("known cells of one column", Puzzles.known(x), column);
                Check.due("grid 0 of one column", Puzzles.stored(x, 0), column);
            }
        }
        NonogramSolver x = Puzzles.ofGrid(".#/../.#/.#/../.#/.#/.#");
        x.solve();
        Check.due("the column 1,2,3", Puzzles.stored(x, 0), ".#/../.#/.#/../.#/.#/.#");
    }

    private static void lengths() {
        for (int rows = 1; rows <= 8; rows++) {
            for (int cols = 1; cols <= 8; cols++) {
                NonogramSolver x = new NonogramSolver(rows, cols);
                String name = rows + "x" + cols;
                Check.due(name + ": a row of cols() + 1", x.addNumber(ROW, rows - 1, cols + 1), false);
                Check.due(name + ": a row of cols()", x.addNumber(ROW, rows - 1, cols), true);
                Check.due(name + ": a column of rows() + 1", x.addNumber(COL, cols - 1, rows + 1), false);
                Check.due(name + ": a column of rows()", x.addNumber(COL, cols - 1, rows), true);
            }
        }
    }

    private static void clues() {
        for (int kind = ROW; kind <= COL; kind++) {
            for (int line = 0; line < 8; line += 7) {
                NonogramSolver x = new NonogramSolver(8, 8);
                Check.due("no number at first", x.clueCount(kind, line), 0);
                Check.due("a number less than 1", x.addNumber(kind, line, 0), false);
                Check.due("no number still", x.clueCount(kind, line), 0);
                for (int count = 1; count <= 4; count++) {
                    Check.due("number " + count, x.addNumber(kind, line, 1), true);
                    Check.due("the count with it", x.clueCount(kind, line), count);
                }
                Check.due("a fifth number", x.addNumber(kind, line, 1), false);
                Check.due("the count without it", x.clueCount(kind, line), 4);
                for (int i = 0; i < 4; i++) {
                    Check.due("number " + i + " at least 1", x.clueNumber(kind, line, i) >= 1, true);
                }
            }
        }
    }

    /** Every filling of every length under every clue: at the edges of the line, with one cell between runs, with none. */
    private static void runsAreExactlyTheNumbers() {
        for (int length = 1; length <= 8; length++) {
            List<String> clues = SmallPuzzles.clues(length);
            for (int bits = 0; bits < 1 << length; bits++) {
                String filling = SmallPuzzles.filling(bits, length);
                String across = filling.replace("#", "1 ").replace(".", "- ").trim();
                for (String clue : clues) {
                    boolean satisfies = clue.equals(SmallPuzzles.clueOf(filling));
                    lineIs("row " + clue + " as " + filling, Puzzles.puzzle(clue, across), satisfies);
                    lineIs("column " + clue + " as " + filling, Puzzles.puzzle(across, clue), satisfies);
                }
            }
        }
    }

    private static void lineIs(String name, NonogramSolver x, boolean satisfying) {
        Check.due(name + ": propagate()", x.propagate(),
            satisfying ? NonogramSolver.COMPLETE : NonogramSolver.CONTRADICTION);
        Check.due(name + ": solve()", x.solve(), satisfying ? NonogramSolver.UNIQUE : NonogramSolver.NO_SOLUTION);
    }

    /** The row is empty and the column asks for the cell, or the other way about; and both with a given. */
    private static void emptyClueHasNoFilledCell() {
        for (int i = 0; i < 8; i++) {
            NonogramSolver row = new NonogramSolver(1, 8);
            row.addNumber(COL, i, 1);
            lineIs("an empty row with column " + i, row, false);
            NonogramSolver col = new NonogramSolver(8, 1);
            col.addNumber(ROW, i, 1);
            lineIs("an empty column with row " + i, col, false);
            NonogramSolver given = new NonogramSolver(8, 8);
            given.setGiven(i, 7 - i, FILLED);
            lineIs("empty clues with a FILLED cell in row " + i, given, false);
            given.setGiven(i, 7 - i, EMPTY);
            lineIs("empty clues with an EMPTY cell", given, true);
            Check.due("empty clues with an EMPTY cell: grid 0", Puzzles.stored(given, 0).contains("#"), false);
        }
    }

    private static void gridOrder() {
        twoCellsInEveryPlace();
        rowsComeBeforeColumns();
    }

    /** One cell in each row and column. Listed column by column, another grid would be the second. */
    private static void rowsComeBeforeColumns() {
        for (int size = 3; size <= 8; size++) {
            String ones = "1 ".repeat(size).trim();
            NonogramSolver x = Puzzles.puzzle(ones, ones);
            x.solve();
            StringBuilder first = new StringBuilder();
            for (int r = 0; r < size; r++) {
                first.append(r == 0 ? "" : "/").append(".".repeat(size - 1 - r)).append('#').append(".".repeat(r));
            }
            String lastRows = "/.#" + ".".repeat(size - 2) + "/#" + ".".repeat(size - 1);
            String changed = "/#" + ".".repeat(size - 1) + "/.#" + ".".repeat(size - 2);
            Check.due(size + " cells: grid 0", Puzzles.stored(x, 0), first.toString());
            Check.due(size + " cells: grid 1", Puzzles.stored(x, 1), first.toString().replace(lastRows, changed));
        }
    }

    /** Two solutions that differ in two rows and two columns: the first one has EMPTY where these first cross. */
    private static void twoCellsInEveryPlace() {
        for (int size = 2; size <= 8; size++) {
            for (int top = 0; top < size; top++) {
                for (int low = top + 1; low < size; low++) {
                    for (int left = 0; left < size; left++) {
                        for (int right = left + 1; right < size; right++) {
                            NonogramSolver x = new NonogramSolver(size, size);
                            x.addNumber(ROW, top, 1);
                            x.addNumber(ROW, low, 1);
                            x.addNumber(COL, left, 1);
                            x.addNumber(COL, right, 1);
                            x.solve();
                            String name = size + ": rows " + top + "," + low + " columns " + left + "," + right;
                            Check.due(name + ": grid 0", Puzzles.stored(x, 0), twoCells(size, top, right, low, left));
                            Check.due(name + ": grid 1", Puzzles.stored(x, 1), twoCells(size, top, left, low, right));
                        }
                    }
                }
            }
        }
    }

    private static String twoCells(int size, int r1, int c1, int r2, int c2) {
        StringBuilder text = new StringBuilder(("/" + ".".repeat(size)).repeat(size).substring(1));
        text.setCharAt(r1 * (size + 1) + c1, '#');
        text.setCharAt(r2 * (size + 1) + c2, '#');
        return text.toString();
    }

    private static void trueResetsBothResults() {
        for (States.State state : States.all()) {
            NonogramSolver sized = state.make();
            int lastRow = sized.rows() - 1;
            int lastCol = sized.cols() - 1;
            state.resetsAtTrue("clearLine(ROW, last)", x -> x.clearLine(ROW, lastRow));
            state.resetsAtTrue("clearLine(COL, last)", x -> x.clearLine(COL, lastCol));
            state.resetsAtTrue("setGiven(last, last, old)",
                x -> x.setGiven(lastRow, lastCol, sized.given(lastRow, lastCol)));
            for (int line = 0; line <= lastRow; line++) {
                int row = line;
                // Room for one number more, by the document's fifth condition.
                if (clueRoom(sized, row) >= 1 && sized.clueCount(ROW, row) < 4) {
                    state.resetsAtTrue("addNumber(ROW, " + row + ", 1)", x -> x.addNumber(ROW, row, 1));
                }
            }
        }
    }

    private static int clueRoom(NonogramSolver x, int row) {
        int room = x.cols();
        for (int i = 0; i < x.clueCount(ROW, row); i++) {
            room -= x.clueNumber(ROW, row, i) + 1;
        }
        return room;
    }

    private static void falseChangesNothing() {
        for (States.State state : States.all()) {
            state.refuses("addNumber(2, 0, 1)", x -> x.addNumber(2, 0, 1));
            state.refuses("addNumber(ROW, rows(), 1)", x -> x.addNumber(ROW, x.rows(), 1));
            state.refuses("addNumber(COL, cols(), 1)", x -> x.addNumber(COL, x.cols(), 1));
            state.refuses("addNumber(ROW, 0, 0)", x -> x.addNumber(ROW, 0, 0));
            state.refuses("addNumber(COL, 0, rows() + 1)", x -> x.addNumber(COL, 0, x.rows() + 1));
            state.refuses("clearLine(-1, 0)", x -> x.clearLine(-1, 0));
            state.refuses("clearLine(ROW, -1)", x -> x.clearLine(ROW, -1));
            state.refuses("clearLine(COL, cols())", x -> x.clearLine(COL, x.cols()));
            state.refuses("setGiven(-1, 0, EMPTY)", x -> x.setGiven(-1, 0, EMPTY));
            state.refuses("setGiven(0, cols(), EMPTY)", x -> x.setGiven(0, x.cols(), EMPTY));
            state.refuses("setGiven(0, 0, INVALID)", x -> x.setGiven(0, 0, NonogramSolver.INVALID));
            state.refuses("setGiven(0, 0, 3)", x -> x.setGiven(0, 0, 3));
        }
    }

    private static void invalidChangesNothing() {
        for (States.State state : States.all()) {
            state.answersInvalid("clueCount(2, 0)", x -> x.clueCount(2, 0));
            state.answersInvalid("clueCount(ROW, rows())", x -> x.clueCount(ROW, x.rows()));
            state.answersInvalid("clueNumber(COL, -1, 0)", x -> x.clueNumber(COL, -1, 0));
            state.answersInvalid("clueNumber(ROW, 0, -1)", x -> x.clueNumber(ROW, 0, -1));
            state.answersInvalid("clueNumber(ROW, 0, 4)", x -> x.clueNumber(ROW, 0, 4));
            state.answersInvalid("given(rows(), 0)", x -> x.given(x.rows(), 0));
            state.answersInvalid("given(0, -1)", x -> x.given(0, -1));
            state.answersInvalid("known(0, cols())", x -> x.known(0, x.cols()));
            state.answersInvalid("known(-1, 0)", x -> x.known(-1, 0));
            state.answersInvalid("solutionCell(2, 0, 0)", x -> x.solutionCell(2, 0, 0));
            state.answersInvalid("solutionCell(0, rows(), 0)", x -> x.solutionCell(0, x.rows(), 0));
            state.answersInvalid("solutionCell(1, 0, cols())", x -> x.solutionCell(1, 0, x.cols()));
        }
    }

    private static void gettersChangeNothing() {
        for (States.State state : States.all()) {
            NonogramSolver sized = state.make();
            state.answers("rows()", NonogramSolver::rows, sized.rows());
            state.answers("cols()", NonogramSolver::cols, sized.cols());
            state.answers("clueCount(ROW, 0)", x -> x.clueCount(ROW, 0), sized.clueCount(ROW, 0));
            state.answers("clueNumber(COL, 0, 0)", x -> x.clueNumber(COL, 0, 0), sized.clueNumber(COL, 0, 0));
            state.answers("given(0, 0)", x -> x.given(0, 0), sized.given(0, 0));
            state.answers("propagateStatus()", NonogramSolver::propagateStatus, sized.propagateStatus());
            state.answers("known(0, 0)", x -> x.known(0, 0), sized.known(0, 0));
            state.answers("knownCount()", NonogramSolver::knownCount, sized.knownCount());
            state.answers("verdict()", NonogramSolver::verdict, sized.verdict());
            state.answers("solutionCell(0, 0, 0)", x -> x.solutionCell(0, 0, 0), sized.solutionCell(0, 0, 0));
            state.answers("solutionCell(1, 0, 0)", x -> x.solutionCell(1, 0, 0), sized.solutionCell(1, 0, 0));
        }
    }
}
