/** Each sentence of promise 8 that names a boundary case. */
public final class Promise08Test {
    private static final int UNKNOWN = NonogramSolver.UNKNOWN;
    private static final int EMPTY = NonogramSolver.EMPTY;
    private static final int FILLED = NonogramSolver.FILLED;
    private static final int CONTRADICTION = NonogramSolver.CONTRADICTION;
    private static final int COMPLETE = NonogramSolver.COMPLETE;
    private static final int STALLED = NonogramSolver.STALLED;

    /** Decided by steps alone, but by a chain of them that goes from rows to columns and back some twenty times. */
    private static final String[] LONG_CHAINS = {
        "#..###../.#.#.##./##..#.../..##..#./#.#..##./.#..##../#..#...#/.##.##.#",
        "##.##.../...#..##/..#.##../###.#.../..##...#/##...###/..##.##./##.#...#",
    };

    private Promise08Test() {
    }

    public static void main(String[] args) {
        Sentence.test("starting from the givens (not from any earlier propagation result).",
            Promise08Test::startsFromTheGivens);
        Sentence.test("A filling of a line is **consistent** when it satisfies the line's clue and agrees with every cell of"
            + " the line that is EMPTY or FILLED in the partial grid.", Promise08Test::fillingsAgreeWithEveryGiven);
        Sentence.test("if the line has no consistent filling, a contradiction is found", Promise08Test::noFillingContradicts);
        Sentence.test("otherwise every UNKNOWN cell of the line that has the same value in all consistent fillings is set to"
            + " that value.", Promise08Test::stepsAreExact);
        Sentence.test("Steps are applied to lines until either some step finds a contradiction, or no step on any line would"
            + " change a cell or find a contradiction.", Promise08Test::goesOnToTheEnd);
        Sentence.test("On contradiction: the status becomes CONTRADICTION and every known cell becomes UNKNOWN.",
            Promise08Test::contradictionLeavesNothingKnown);
        Sentence.test("the status is COMPLETE when no cell is UNKNOWN", Promise08Test::completeWhenNoCellIsUnknown);
        Sentence.test("else STALLED.", Promise08Test::stalledWhenACellIsUnknown);
        Sentence.test("The call answers the status.", Promise08Test::answersTheStatus);
        Sentence.test("It leaves clues, givens and the search result untouched.", Promise08Test::leavesTheRestUntouched);
        Sentence.test("It always runs, whatever the current status", Promise08Test::runsWhateverTheStatus);
        Sentence.test("repeated calls with no change in between give the same result.", Promise08Test::repeatsItself);
        Sentence.test("after CONTRADICTION, no solution exists; after COMPLETE or STALLED, every cell whose known value is"
            + " EMPTY or FILLED has that same value in every solution.", Promise08Test::knownCellsHoldInEverySolution);
        Sentence.test("on a fresh object every clue is empty, so propagation makes every cell EMPTY and answers COMPLETE.",
            Promise08Test::freshObjectBecomesEmpty);
        Check.end();
    }

    private static void propagates(String name, NonogramSolver x, int status, String known) {
        Check.due(name + ": propagate()", x.propagate(), status);
        Check.due(name + ": known cells", Puzzles.known(x), known);
    }

    private static void startsFromTheGivens() {
        NonogramSolver x = Puzzles.puzzle("1 1", "1 1");
        x.setGiven(0, 0, FILLED);
        propagates("a given", x, COMPLETE, "#./.#");
        x.setGiven(0, 0, UNKNOWN);
        propagates("the given taken away", x, STALLED, "??/??");
        x.setGiven(1, 0, FILLED);
        propagates("another given", x, COMPLETE, ".#/#.");
        x.setGiven(1, 1, FILLED);
        propagates("a given too many", x, CONTRADICTION, "??/??");
        x.setGiven(1, 1, EMPTY);
        propagates("a given that agrees", x, COMPLETE, ".#/#.");
        x.clearLine(NonogramSolver.ROW, 0);
        x.clearLine(NonogramSolver.COL, 1);
        propagates("two clues cleared", x, COMPLETE, "../#.");
    }

    /** Every cell is given: the only filling left must satisfy the clue, whatever the clue and the filling are. */
    private static void fillingsAgreeWithEveryGiven() {
        for (int length = 1; length <= 8; length++) {
            for (int bits = 0; bits < 1 << length; bits++) {
                String filling = SmallPuzzles.filling(bits, length);
                for (String clue : SmallPuzzles.clues(length)) {
                    boolean right = clue.equals(SmallPuzzles.clueOf(filling));
                    givenLine(clue, filling, right);
                }
            }
        }
    }

    private static void givenLine(String clue, String filling, boolean right) {
        String across = filling.replace("#", "1 ").replace(".", "- ").trim();
        NonogramSolver row = Puzzles.puzzle(clue, across);
        NonogramSolver col = Puzzles.puzzle(across, clue);
        for (int i = 0; i < filling.length(); i++) {
            int value = filling.charAt(i) == '#' ? FILLED : EMPTY;
            row.setGiven(0, i, value);
            col.setGiven(i, 0, value);
        }
        Check.due("row " + clue + " with givens " + filling, row.propagate(), right ? COMPLETE : CONTRADICTION);
        Check.due("column " + clue + " with givens " + filling, col.propagate(), right ? COMPLETE : CONTRADICTION);
    }

    private static void noFillingContradicts() {
        // An empty clue and one FILLED cell, wherever it stands.
        for (int rows = 1; rows <= 8; rows++) {
            for (int cols = 1; cols <= 8; cols++) {
                for (int cell = 0; cell < rows * cols; cell++) {
                    NonogramSolver x = new NonogramSolver(rows, cols);
                    x.setGiven(cell / cols, cell % cols, FILLED);
                    Check.due(rows + "x" + cols + ": cell " + cell + " FILLED under empty clues", x.propagate(), CONTRADICTION);
                }
            }
        }
        // A clue that fills its line, and one EMPTY cell in it.
        for (int i = 0; i < 8; i++) {
            NonogramSolver row = Puzzles.puzzle("8", "1 1 1 1 1 1 1 1");
            row.setGiven(0, i, EMPTY);
            Check.due("a full row with cell " + i + " EMPTY", row.propagate(), CONTRADICTION);
            NonogramSolver col = Puzzles.puzzle("1 1 1 1 1 1 1 1", "8");
            col.setGiven(i, 0, EMPTY);
            Check.due("a full column with cell " + i + " EMPTY", col.propagate(), CONTRADICTION);
        }
        // One line alone asks for a cell that its crossing lines forbid: each row, each column, the last ones too.
        for (int line = 0; line < 8; line++) {
            NonogramSolver row = new NonogramSolver(8, 8);
            row.addNumber(NonogramSolver.ROW, line, 1);
            Check.due("row " + line + " alone has a number", row.propagate(), CONTRADICTION);
            NonogramSolver col = new NonogramSolver(8, 8);
            col.addNumber(NonogramSolver.COL, line, 1);
            Check.due("column " + line + " alone has a number", col.propagate(), CONTRADICTION);
        }
    }

    /**
     * A line is looked at alone: its crossing lines have the clue 1 and the two lines beside it have the clue 1 too, which
     * decide nothing in it as long as it leaves two cells that are not FILLED.
     */
    private static void stepsAreExact() {
        for (int length = 3; length <= 8; length++) {
            int partials = (int) Math.pow(3, length);
            for (int partial = 0; partial < partials; partial++) {
                String givens = partialLine(partial, length);
                int open = givens.replaceAll("[^?]", "").length();
                // In the longest lines no more than two cells are given, or there would be too many lines to look at.
                if (length <= 5 || open >= length - 2) {
                    for (String clue : SmallPuzzles.clues(length)) {
                        stepIsExact(clue, givens);
                    }
                }
            }
        }
    }

    private static String partialLine(int partial, int length) {
        StringBuilder text = new StringBuilder();
        int rest = partial;
        for (int i = 0; i < length; i++) {
            text.append("?.#".charAt(rest % 3));
            rest /= 3;
        }
        return text.toString();
    }

    private static void stepIsExact(String clue, String givens) {
        String due = exactStep(clue, givens);
        int filled = due.replaceAll("[^#]", "").length();
        if (filled > givens.length() - 2) {
            return;
        }
        String ones = "1 ".repeat(givens.length()).trim();
        NonogramSolver rows = Puzzles.puzzle("1 " + clue + " 1", ones);
        NonogramSolver cols = Puzzles.puzzle(ones, "1 " + clue + " 1");
        for (int i = 0; i < givens.length(); i++) {
            rows.setGiven(1, i, "?.#".indexOf(givens.charAt(i)));
            cols.setGiven(i, 1, "?.#".indexOf(givens.charAt(i)));
        }
        int rowStatus = rows.propagate();
        int colStatus = cols.propagate();
        String name = "clue " + clue + " with givens " + givens;
        Check.due("row, " + name + ": propagate()", rowStatus, due.isEmpty() ? CONTRADICTION : STALLED);
        Check.due("column, " + name + ": propagate()", colStatus, due.isEmpty() ? CONTRADICTION : STALLED);
        for (int i = 0; i < due.length(); i++) {
            Check.due("row, " + name + ": cell " + i, rows.known(1, i), "?.#".indexOf(due.charAt(i)));
            Check.due("column, " + name + ": cell " + i, cols.known(i, 1), "?.#".indexOf(due.charAt(i)));
        }
    }

    /** The line after a step, or an empty text when there is no consistent filling. */
    private static String exactStep(String clue, String givens) {
        char[] all = null;
        for (int bits = 0; bits < 1 << givens.length(); bits++) {
            String filling = SmallPuzzles.filling(bits, givens.length());
            if (SmallPuzzles.clueOf(filling).equals(clue) && agrees(filling, givens)) {
                if (all == null) {
                    all = filling.toCharArray();
                }
                for (int i = 0; i < all.length; i++) {
                    if (all[i] != filling.charAt(i)) {
                        all[i] = '?';
                    }
                }
            }
        }
        return all == null ? "" : new String(all);
    }

    private static boolean agrees(String filling, String givens) {
        for (int i = 0; i < givens.length(); i++) {
            if (givens.charAt(i) != '?' && givens.charAt(i) != filling.charAt(i)) {
                return false;
            }
        }
        return true;
    }

    private static void goesOnToTheEnd() {
        for (String grid : LONG_CHAINS) {
            propagates("a long chain", Puzzles.ofGrid(grid), COMPLETE, grid);
            String turned = Puzzles.turned(grid);
            propagates("a long chain, turned", Puzzles.ofGrid(turned), COMPLETE, turned);
            for (int cell = 0; cell < 64; cell++) {
                char value = grid.charAt(cell / 8 * 9 + cell % 8);
                NonogramSolver x = Puzzles.ofGrid(grid);
                x.setGiven(cell / 8, cell % 8, value == '#' ? EMPTY : FILLED);
                propagates("a long chain against given " + cell, x, CONTRADICTION, Puzzles.blank(x));
                x.setGiven(cell / 8, cell % 8, value == '#' ? FILLED : EMPTY);
                propagates("a long chain with given " + cell, x, COMPLETE, grid);
            }
        }
    }

    private static void contradictionLeavesNothingKnown() {
        // The first row and column are decided before a contradiction can be seen in the last ones.
        for (int size = 2; size <= 8; size++) {
            String blank = "- ".repeat(size - 2);
            NonogramSolver x = Puzzles.puzzle(size + " " + blank + "1", "1 " + "1 ".repeat(size - 1).trim());
            propagates("the last row of " + size, x, CONTRADICTION, Puzzles.blank(x));
            Check.due("propagateStatus() after it", x.propagateStatus(), CONTRADICTION);
            Check.due("knownCount() after it", x.knownCount(), 0);
        }
        // Also after a result with known cells, and with every cell given.
        NonogramSolver x = new NonogramSolver(8, 8);
        propagates("before", x, COMPLETE, Puzzles.blank(x).replace('?', '.'));
        x.setGiven(7, 7, FILLED);
        propagates("after", x, CONTRADICTION, Puzzles.blank(x));
        for (int cell = 0; cell < 64; cell++) {
            x.setGiven(cell / 8, cell % 8, FILLED);
        }
        propagates("every cell FILLED under empty clues", x, CONTRADICTION, Puzzles.blank(x));
    }

    private static void completeWhenNoCellIsUnknown() {
        for (int rows = 1; rows <= 8; rows++) {
            for (int cols = 1; cols <= 8; cols++) {
                String full = ("#".repeat(cols) + "/").repeat(rows);
                full = full.substring(0, full.length() - 1);
                propagates("full " + rows + "x" + cols, Puzzles.ofGrid(full), COMPLETE, full);
                NonogramSolver given = Puzzles.ofGrid(full);
                for (int cell = 0; cell < rows * cols; cell++) {
                    given.setGiven(cell / cols, cell % cols, FILLED);
                }
                propagates("full and given " + rows + "x" + cols, given, COMPLETE, full);
            }
        }
    }

    /** From four unknown cells, the fewest there can be, in each corner, to all 64. */
    private static void stalledWhenACellIsUnknown() {
        for (int top = 0; top <= 6; top += 6) {
            for (int left = 0; left <= 6; left += 6) {
                StringBuilder clueRows = new StringBuilder();
                StringBuilder clueCols = new StringBuilder();
                StringBuilder due = new StringBuilder();
                for (int r = 0; r < 8; r++) {
                    boolean openRow = r == top || r == top + 1;
                    clueRows.append(openRow ? "1 " : "- ");
                    clueCols.append(r == left || r == left + 1 ? "1 " : "- ");
                    StringBuilder row = new StringBuilder("........");
                    if (openRow) {
                        row.replace(left, left + 2, "??");
                    }
                    due.append(r == 0 ? "" : "/").append(row);
                }
                NonogramSolver x = Puzzles.puzzle(clueRows.toString().trim(), clueCols.toString().trim());
                propagates("four cells open at " + top + "," + left, x, STALLED, due.toString());
            }
        }
        NonogramSolver all = Puzzles.puzzle("1 1 1 1 1 1 1 1", "1 1 1 1 1 1 1 1");
        propagates("all cells open", all, STALLED, Puzzles.blank(all));
        propagates("2x2, all cells open", Puzzles.puzzle("1 1", "1 1"), STALLED, "??/??");
    }

    private static void answersTheStatus() {
        for (States.State state : States.all()) {
            NonogramSolver x = state.make();
            int answer = x.propagate();
            Check.due(state.name + ": propagate() and propagateStatus()", answer, x.propagateStatus());
            Check.due(state.name + ": propagate() answers a status", answer >= CONTRADICTION && answer <= STALLED, true);
        }
    }

    private static void leavesTheRestUntouched() {
        for (States.State state : States.all()) {
            NonogramSolver x = state.make();
            NonogramSolver twin = state.make();
            x.propagate();
            Check.due(state.name + ": clues after propagate()", Puzzles.clues(x), Puzzles.clues(twin));
            Check.due(state.name + ": givens after propagate()", Puzzles.givens(x), Puzzles.givens(twin));
            Check.due(state.name + ": verdict() after propagate()", x.verdict(), twin.verdict());
            Check.due(state.name + ": grid 0 after propagate()", Puzzles.stored(x, 0), Puzzles.stored(twin, 0));
            Check.due(state.name + ": grid 1 after propagate()", Puzzles.stored(x, 1), Puzzles.stored(twin, 1));
        }
    }

    /** From every status that can be there, to every status that can come. */
    private static void runsWhateverTheStatus() {
        NonogramSolver x = Puzzles.puzzle("1 1", "1 1");
        propagates("from NOT_RUN", x, STALLED, "??/??");
        propagates("from STALLED", x, STALLED, "??/??");
        x.setGiven(0, 0, EMPTY);
        propagates("to COMPLETE", x, COMPLETE, ".#/#.");
        propagates("from COMPLETE", x, COMPLETE, ".#/#.");
        x.setGiven(1, 1, FILLED);
        propagates("to CONTRADICTION", x, CONTRADICTION, "??/??");
        propagates("from CONTRADICTION", x, CONTRADICTION, "??/??");
        x.setGiven(0, 0, UNKNOWN);
        propagates("to COMPLETE again", x, COMPLETE, "#./.#");
        x.solve();
        propagates("after a search", x, COMPLETE, "#./.#");
    }

    private static void repeatsItself() {
        for (States.State state : States.all()) {
            NonogramSolver x = state.make();
            int first = x.propagate();
            String after = Puzzles.state(x);
            for (int again = 0; again < 3; again++) {
                Check.due(state.name + ": propagate() again", x.propagate(), first);
                Check.due(state.name + ": state after propagate() again", Puzzles.state(x), after);
            }
        }
    }

    /** Every puzzle of these sizes, with all its solutions. */
    private static void knownCellsHoldInEverySolution() {
        for (int[] size : new int[][] {{1, 1}, {1, 3}, {3, 1}, {2, 2}, {2, 3}, {3, 2}, {3, 3}}) {
            SmallPuzzles.each(size[0], size[1], (name, x, solutions) -> {
                int status = x.propagate();
                String known = Puzzles.known(x);
                Check.due(name + ": CONTRADICTION with solutions", status == CONTRADICTION && !solutions.isEmpty(), false);
                for (String solution : solutions) {
                    Check.due(name + ": known " + known + " agrees with " + solution, agrees(solution, known), true);
                }
            });
        }
    }

    private static void freshObjectBecomesEmpty() {
        for (int rows = 0; rows <= 9; rows++) {
            for (int cols = 0; cols <= 9; cols++) {
                NonogramSolver x = new NonogramSolver(rows, cols);
                propagates("fresh (" + rows + ", " + cols + ")", x, COMPLETE, Puzzles.blank(x).replace('?', '.'));
            }
        }
    }
}
