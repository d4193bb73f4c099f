import java.util.List;

/** Each sentence of promise 11 that names a boundary case. */
public final class Promise11Test {
    private static final int NO_SOLUTION = NonogramSolver.NO_SOLUTION;
    private static final int UNIQUE = NonogramSolver.UNIQUE;
    private static final int MULTIPLE = NonogramSolver.MULTIPLE;
    private static final int UNKNOWN = NonogramSolver.UNKNOWN;
    private static final int EMPTY = NonogramSolver.EMPTY;
    private static final int FILLED = NonogramSolver.FILLED;

    private static final int[][] SMALL = {{1, 1}, {1, 2}, {2, 1}, {1, 3}, {3, 1}, {2, 2}, {2, 3}, {3, 2}, {3, 3}, {1, 8}, {8, 1}};

    private Promise11Test() {
    }

    public static void main(String[] args) {
        Sentence.test("`solve()` considers S, the set of all solutions for the clues and givens as they are now.",
            Promise11Test::followsEveryChange);
        Sentence.test("the verdict: NO_SOLUTION when S is empty", Promise11Test::noSolution);
        Sentence.test("the verdict: .. UNIQUE when S has exactly one member", Promise11Test::exactlyOne);
        Sentence.test("the verdict: .. MULTIPLE otherwise", Promise11Test::twoOrMore);
        Sentence.test("stored grid 0: the first solution in grid order", Promise11Test::firstSolution);
        Sentence.test("stored grid 0: .. or all cells UNKNOWN when S is empty", Promise11Test::noFirstSolution);
        Sentence.test("stored grid 1: the second solution in grid order", Promise11Test::secondSolution);
        Sentence.test("stored grid 1: .. or all cells UNKNOWN when S has fewer than two members.",
            Promise11Test::noSecondSolution);
        Sentence.test("It answers the verdict.", Promise11Test::answersTheVerdict);
        Sentence.test("It leaves clues, givens and the propagation result untouched.", Promise11Test::leavesTheRestUntouched);
        Sentence.test("It always runs, whatever the current verdict", Promise11Test::runsWhateverTheVerdict);
        Sentence.test("repeated calls with no change in between give the same result.", Promise11Test::repeatsItself);
        Sentence.test("Thus when the verdict is UNIQUE or MULTIPLE, stored grid 0 has every cell EMPTY or FILLED, every row and"
            + " column satisfies its clue, and every cell with given EMPTY or FILLED has that value; when the verdict is"
            + " MULTIPLE the same holds for stored grid 1, which differs from stored grid 0 in at least one cell and comes"
            + " after it in grid order.", Promise11Test::storedGridsAreSolutions);
        Check.end();
    }

    private static void solves(String name, NonogramSolver x, int verdict, String first, String second) {
        Check.due(name + ": solve()", x.solve(), verdict);
        Check.due(name + ": grid 0", Puzzles.stored(x, 0), first.isEmpty() ? Puzzles.blank(x) : first);
        Check.due(name + ": grid 1", Puzzles.stored(x, 1), second.isEmpty() ? Puzzles.blank(x) : second);
    }

    private static void eachSmall(SmallPuzzles.Use use) {
        for (int[] size : SMALL) {
            SmallPuzzles.each(size[0], size[1], use);
        }
    }

    private static void followsEveryChange() {
        NonogramSolver x = Puzzles.puzzle("1 1", "1 1");
        solves("two solutions", x, MULTIPLE, ".#/#.", "#./.#");
        x.setGiven(0, 0, FILLED);
        solves("a given FILLED", x, UNIQUE, "#./.#", "");
        x.setGiven(0, 0, EMPTY);
        solves("a given EMPTY", x, UNIQUE, ".#/#.", "");
        x.setGiven(1, 1, FILLED);
        solves("a given too many", x, NO_SOLUTION, "", "");
        x.setGiven(0, 0, UNKNOWN);
        solves("a given taken away", x, UNIQUE, "#./.#", "");
        x.setGiven(1, 1, UNKNOWN);
        solves("all givens taken away", x, MULTIPLE, ".#/#.", "#./.#");
        x.clearLine(NonogramSolver.ROW, 0);
        solves("a clue cleared", x, NO_SOLUTION, "", "");
        x.clearLine(NonogramSolver.COL, 1);
        solves("its other clue cleared", x, UNIQUE, "../#.", "");
        x.clearLine(NonogramSolver.ROW, 1);
        x.clearLine(NonogramSolver.COL, 0);
        solves("all clues cleared", x, UNIQUE, "../..", "");
        x.addNumber(NonogramSolver.ROW, 1, 2);
        x.addNumber(NonogramSolver.COL, 0, 1);
        x.addNumber(NonogramSolver.COL, 1, 1);
        solves("new numbers", x, UNIQUE, "../##", "");
    }

    private static void noSolution() {
        eachSmall((name, x, solutions) -> {
            if (solutions.isEmpty()) {
                Check.due(name + ": solve()", x.solve(), NO_SOLUTION);
            }
        });
        // As many FILLED cells in the rows as in the columns, and yet no solution; steps alone don't see it.
        Check.due("stalled, none", Puzzles.puzzle("2 3 3 2", "2 3 3 1,1").solve(), NO_SOLUTION);
        Check.due("nothing known, none", Puzzles.puzzle("1,1 1 1,1 2", "1 1,1 1,1 2").solve(), NO_SOLUTION);
        // The greatest grid: one FILLED cell too many, at any place.
        for (int line = 0; line < 8; line++) {
            NonogramSolver x = new NonogramSolver(8, 8);
            x.setGiven(line, 7 - line, FILLED);
            Check.due("a FILLED cell in row " + line, x.solve(), NO_SOLUTION);
            NonogramSolver y = new NonogramSolver(8, 8);
            y.addNumber(NonogramSolver.COL, line, 1);
            Check.due("a number in column " + line, y.solve(), NO_SOLUTION);
        }
    }

    private static void exactlyOne() {
        eachSmall((name, x, solutions) -> {
            if (solutions.size() == 1) {
                Check.due(name + ": solve()", x.solve(), UNIQUE);
            }
        });
        Check.due("stalled, unique", Puzzles.puzzle("1,1 1,1 2", "2 1 1 2").solve(), UNIQUE);
        Check.due("nothing known, unique", Puzzles.puzzle("2 2 1,1 2", "2 2 1,1 2").solve(), UNIQUE);
        for (int rows = 1; rows <= 8; rows++) {
            for (int cols = 1; cols <= 8; cols++) {
                NonogramSolver full = Puzzles.puzzle((cols + " ").repeat(rows).trim(), (rows + " ").repeat(cols).trim());
                Check.due("full " + rows + "x" + cols, full.solve(), UNIQUE);
                Check.due("empty " + rows + "x" + cols, new NonogramSolver(rows, cols).solve(), UNIQUE);
            }
        }
    }

    private static void twoOrMore() {
        boolean[] seen = new boolean[7];
        eachSmall((name, x, solutions) -> {
            if (solutions.size() > 1) {
                seen[solutions.size()] = true;
                Check.due(name + ": solve()", x.solve(), MULTIPLE);
            }
        });
        Check.due("puzzles with exactly two solutions were seen", seen[2], true);
        Check.due("puzzles with six solutions were seen", seen[6], true);
        Check.due("three solutions", Puzzles.puzzle("1 1,1 1,1", "1 1 1 2").solve(), MULTIPLE);
        Check.due("8! solutions", Puzzles.puzzle("1 1 1 1 1 1 1 1", "1 1 1 1 1 1 1 1").solve(), MULTIPLE);
    }

    private static void firstSolution() {
        eachSmall((name, x, solutions) -> {
            x.solve();
            if (!solutions.isEmpty()) {
                Check.due(name + ": grid 0", Puzzles.stored(x, 0), solutions.get(0));
            }
        });
        NonogramSolver big = Puzzles.puzzle("1 1 1 1 1 1 1 1", "1 1 1 1 1 1 1 1");
        big.solve();
        Check.due("8x8: grid 0", Puzzles.stored(big, 0),
            ".......#/......#./.....#../....#.../...#..../..#...../.#....../#.......");
    }

    private static void noFirstSolution() {
        eachSmall((name, x, solutions) -> {
            x.solve();
            if (solutions.isEmpty()) {
                Check.due(name + ": grid 0", Puzzles.stored(x, 0), Puzzles.blank(x));
            }
        });
        for (States.State state : States.all()) {
            NonogramSolver x = state.make();
            spoil(x);
            x.solve();
            Check.due(state.name + " spoilt: grid 0", Puzzles.stored(x, 0), Puzzles.blank(x));
        }
    }

    /** The last row must be full, but its last cell is EMPTY. */
    private static void spoil(NonogramSolver x) {
        x.clearLine(NonogramSolver.ROW, x.rows() - 1);
        x.addNumber(NonogramSolver.ROW, x.rows() - 1, x.cols());
        x.setGiven(x.rows() - 1, x.cols() - 1, EMPTY);
    }

    private static void secondSolution() {
        eachSmall((name, x, solutions) -> {
            x.solve();
            if (solutions.size() > 1) {
                Check.due(name + ": grid 1", Puzzles.stored(x, 1), solutions.get(1));
            }
        });
        NonogramSolver big = Puzzles.puzzle("1 1 1 1 1 1 1 1", "1 1 1 1 1 1 1 1");
        big.solve();
        Check.due("8x8: grid 1", Puzzles.stored(big, 1),
            ".......#/......#./.....#../....#.../...#..../..#...../#......./.#......");
        NonogramSolver corners = Puzzles.puzzle("1 - - - - - - 1", "1 - - - - - - 1");
        solves("differ from the first cell to the last", corners, MULTIPLE,
            ".......#/......../......../......../......../......../......../#.......",
            "#......./......../......../......../......../......../......../.......#");
    }

    private static void noSecondSolution() {
        eachSmall((name, x, solutions) -> {
            x.solve();
            if (solutions.size() < 2) {
                Check.due(name + ": grid 1", Puzzles.stored(x, 1), Puzzles.blank(x));
            }
        });
        // After a search that found two.
        NonogramSolver x = Puzzles.puzzle("1 - - - - - - 1", "1 - - - - - - 1");
        x.solve();
        x.setGiven(7, 7, FILLED);
        solves("one left", x, UNIQUE, "#......./......../......../......../......../......../......../.......#", "");
        x.setGiven(0, 7, FILLED);
        solves("none left", x, NO_SOLUTION, "", "");
    }

    private static void answersTheVerdict() {
        for (States.State state : States.all()) {
            NonogramSolver x = state.make();
            int answer = x.solve();
            Check.due(state.name + ": solve() and verdict()", answer, x.verdict());
            Check.due(state.name + ": solve() answers a verdict", answer >= NO_SOLUTION && answer <= MULTIPLE, true);
        }
    }

    private static void leavesTheRestUntouched() {
        for (States.State state : States.all()) {
            NonogramSolver x = state.make();
            NonogramSolver twin = state.make();
            x.solve();
            Check.due(state.name + ": clues after solve()", Puzzles.clues(x), Puzzles.clues(twin));
            Check.due(state.name + ": givens after solve()", Puzzles.givens(x), Puzzles.givens(twin));
            Check.due(state.name + ": propagateStatus() after solve()", x.propagateStatus(), twin.propagateStatus());
            Check.due(state.name + ": known cells after solve()", Puzzles.known(x), Puzzles.known(twin));
            Check.due(state.name + ": knownCount() after solve()", x.knownCount(), twin.knownCount());
        }
    }

    /** From every verdict that can be there. */
    private static void runsWhateverTheVerdict() {
        NonogramSolver x = Puzzles.puzzle("1 1", "1 1");
        solves("from NOT_RUN", x, MULTIPLE, ".#/#.", "#./.#");
        solves("from MULTIPLE", x, MULTIPLE, ".#/#.", "#./.#");
        x.setGiven(0, 1, EMPTY);
        solves("to UNIQUE", x, UNIQUE, "#./.#", "");
        solves("from UNIQUE", x, UNIQUE, "#./.#", "");
        x.setGiven(0, 0, EMPTY);
        solves("to NO_SOLUTION", x, NO_SOLUTION, "", "");
        solves("from NO_SOLUTION", x, NO_SOLUTION, "", "");
        x.propagate();
        solves("after CONTRADICTION", x, NO_SOLUTION, "", "");
        x.setGiven(0, 0, UNKNOWN);
        x.propagate();
        solves("after COMPLETE", x, UNIQUE, "#./.#", "");
        x.setGiven(0, 1, UNKNOWN);
        x.propagate();
        solves("after STALLED", x, MULTIPLE, ".#/#.", "#./.#");
    }

    private static void repeatsItself() {
        for (States.State state : States.all()) {
            NonogramSolver x = state.make();
            int first = x.solve();
            String after = Puzzles.state(x);
            for (int again = 0; again < 3; again++) {
                Check.due(state.name + ": solve() again", x.solve(), first);
                Check.due(state.name + ": state after solve() again", Puzzles.state(x), after);
            }
        }
    }

    /** Every puzzle of two by two cells with every set of givens, and of three by three cells with each cell given. */
    private static void storedGridsAreSolutions() {
        SmallPuzzles.each(2, 2, (name, x, solutions) -> {
            for (int set = 0; set < 81; set++) {
                x.setGiven(0, 0, set % 3);
                x.setGiven(0, 1, set / 3 % 3);
                x.setGiven(1, 0, set / 9 % 3);
                x.setGiven(1, 1, set / 27);
                storesWhatAgrees(name, x, solutions);
            }
        });
        SmallPuzzles.each(3, 3, (name, x, solutions) -> {
            for (int set = 0; set < 27 && !solutions.isEmpty(); set++) {
                int cell = set / 3;
                x.setGiven(cell / 3, cell % 3, set % 3);
                storesWhatAgrees(name, x, solutions);
                x.setGiven(cell / 3, cell % 3, UNKNOWN);
            }
        });
    }

    private static void storesWhatAgrees(String name, NonogramSolver x, List<String> solutions) {
        String givens = Puzzles.givens(x);
        String first = "";
        String second = "";
        int count = 0;
        for (String solution : solutions) {
            if (solution.matches(givens.replace('?', '_').replace(".", "\\.").replace('_', '.'))) {
                first = count == 0 ? solution : first;
                second = count == 1 ? solution : second;
                count++;
            }
        }
        solves(name + " givens " + givens, x, Math.min(count, MULTIPLE), first, second);
    }
}
