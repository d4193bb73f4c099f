/** Promises 8, 9 and 10: line propagation, its status, the known cells. */
public final class PropagationTest {
    private static final int CONTRADICTION = NonogramSolver.CONTRADICTION;
    private static final int COMPLETE = NonogramSolver.COMPLETE;
    private static final int STALLED = NonogramSolver.STALLED;
    private static final int EMPTY = NonogramSolver.EMPTY;
    private static final int FILLED = NonogramSolver.FILLED;
    private static final int UNKNOWN = NonogramSolver.UNKNOWN;

    private PropagationTest() {
    }

    public static void main(String[] args) {
        emptyCluesMakeEverythingEmpty();
        completes();
        stalls();
        contradicts();
        usesGivens();
        lineRuleIsExact();
        startsFromGivensEachTime();
        leavesTheRestUntouched();
        statusFallsBackToNotRun();
        readsKnownCells();
        Check.end();
    }

    private static void propagates(String name, NonogramSolver x, int status, String known) {
        int count = known.replace("/", "").replace("?", "").length();
        for (int i = 0; i < 2; i++) {
            Check.due(name + ": propagate()", x.propagate(), status);
            Check.due(name + ": propagateStatus()", x.propagateStatus(), status);
            Check.due(name + ": known cells", Puzzles.known(x), known);
            Check.due(name + ": knownCount()", x.knownCount(), count);
        }
    }

    private static void emptyCluesMakeEverythingEmpty() {
        for (int rows = 1; rows <= 8; rows++) {
            for (int cols = 1; cols <= 8; cols++) {
                NonogramSolver x = new NonogramSolver(rows, cols);
                propagates("fresh " + rows + "x" + cols, x, COMPLETE, Puzzles.blank(x).replace('?', '.'));
            }
        }
    }

    private static void completes() {
        propagates("one cell", Puzzles.puzzle("1", "1"), COMPLETE, "#");
        propagates("plus", Puzzles.puzzle("1 1 5 1 1", "1 1 5 1 1"), COMPLETE, "..#../..#../#####/..#../..#..");
        propagates("full", Puzzles.puzzle("8 8 8 8 8 8 8 8", "8 8 8 8 8 8 8 8"), COMPLETE,
            "########/########/########/########/########/########/########/########");
        propagates("four numbers", Puzzles.puzzle("2,1,1,1", "1 1 - 1 - 1 - 1"), COMPLETE, "##.#.#.#");
        propagates("order of numbers", Puzzles.puzzle("1,2 - 2", "1 - 1,1 1,1"), COMPLETE, "#.##/..../..##");
        propagates("several rounds", Puzzles.puzzle("2 4,1 1,1 1,1 1,2 1,2 2,1,1,1 4,1",
            "1 2,1 2,2,1 1,1,2 2,1,1 1,2 1 3,3"), COMPLETE,
            ".##...../.####..#/....#..#/...#...#/..#.##../..#...##/##.#.#.#/..####.#");
    }

    private static void stalls() {
        propagates("two diagonals", Puzzles.puzzle("1 1", "1 1"), STALLED, "??/??");
        propagates("empty middle row", Puzzles.puzzle("1 - 2", "1 1 1"), STALLED, "?.?/.../?#?");
        propagates("overlap", Puzzles.puzzle("4 1 1", "1 1 2 1 1"), STALLED, "?###?/..#../?...?");
        propagates("stalled though unique", Puzzles.puzzle("1,1 1,1 2", "2 1 1 2"), STALLED, "????/#..#/????");
        propagates("stalled though unsolvable", Puzzles.puzzle("2 3 3 2", "2 3 3 1,1"), STALLED, "????/?##?/?##?/????");
        propagates("stalled though the totals differ", Puzzles.puzzle("1 1 1", "1 1 -"), STALLED, "??./??./??.");
        propagates("big", Puzzles.puzzle("2,2 2,1 1,3,1 2 1,1 4,2 1,1 3,2", "1,2 1,1,1 3,1,1 1,1,2,1 2,1 1,1,1 1,1,1,1 3"),
            STALLED, "..##.?#?/.##.??.?/#.###.??/....????/?..#.?.?/####.?#?/?...#..?/.###.?#?");
    }

    private static void contradicts() {
        propagates("row without column", Puzzles.puzzle("1", "-"), CONTRADICTION, "?");
        propagates("column without row", Puzzles.puzzle("- -", "- 1"), CONTRADICTION, "??/??");
        propagates("after some steps", Puzzles.puzzle("4 1,1 2 1,1", "4 1 2,1 1,1"), CONTRADICTION,
            "????/????/????/????");
        propagates("last column", Puzzles.puzzle("- - - - - - - -", "- - - - - - - 8"), CONTRADICTION,
            "????????/????????/????????/????????/????????/????????/????????/????????");
    }

    private static void usesGivens() {
        NonogramSolver x = Puzzles.puzzle("1 1", "1 1");
        x.setGiven(0, 1, EMPTY);
        propagates("given EMPTY", x, COMPLETE, "#./.#");
        x.setGiven(0, 1, FILLED);
        propagates("given FILLED", x, COMPLETE, ".#/#.");
        x.setGiven(1, 1, FILLED);
        propagates("givens against the column", x, CONTRADICTION, "??/??");
        x.setGiven(1, 1, UNKNOWN);
        x.setGiven(0, 1, UNKNOWN);
        propagates("givens taken back", x, STALLED, "??/??");

        NonogramSolver all = Puzzles.puzzle("1 1", "1 1");
        for (int cell = 0; cell < 4; cell++) {
            all.setGiven(cell / 2, cell % 2, FILLED);
        }
        propagates("every cell given and wrong", all, CONTRADICTION, "??/??");
        NonogramSolver right = Puzzles.puzzle("1 1", "1 1");
        for (int cell = 0; cell < 4; cell++) {
            right.setGiven(cell / 2, cell % 2, cell / 2 == cell % 2 ? FILLED : EMPTY);
        }
        propagates("every cell given and right", right, COMPLETE, "#./.#");
        NonogramSolver filled = new NonogramSolver(3, 3);
        filled.setGiven(2, 2, FILLED);
        propagates("FILLED under an empty clue", filled, CONTRADICTION, "???/???/???");
    }

    /** Row 0 is looked at with givens; the columns and the other rows leave its unknown cells open. */
    private static void lineRuleIsExact() {
        NonogramSolver x = Puzzles.puzzle("1,2 1 1 1 1 1", "1 1 1 1 1 1 1 1");
        x.setGiven(0, 2, FILLED);
        x.setGiven(0, 4, EMPTY);
        // Cell 2 is the 1 or begins the 2; it can't end the 2, for there is no room for the 1 before it.
        Check.due("1,2 in ??#?.???: propagate()", x.propagate(), STALLED);
        Check.due("1,2 in ??#?.???: row 0", Puzzles.known(x).substring(0, 8), "?.#?.???");
        x.setGiven(0, 0, EMPTY);
        // Now nothing can stand before cell 2, so it is the 1, and the 2 covers cell 6 wherever it stands.
        Check.due("1,2 in .?#?.???: propagate()", x.propagate(), STALLED);
        Check.due("1,2 in .?#?.???: row 0", Puzzles.known(x).substring(0, 8), "..#..?#?");
    }

    private static void startsFromGivensEachTime() {
        NonogramSolver x = Puzzles.puzzle("1 1", "1 1");
        x.setGiven(0, 0, FILLED);
        propagates("before", x, COMPLETE, "#./.#");
        x.setGiven(0, 0, UNKNOWN);
        propagates("after the given is gone", x, STALLED, "??/??");
        x.clearLine(NonogramSolver.ROW, 0);
        propagates("after a clue is gone", x, CONTRADICTION, "??/??");
        x.clearLine(NonogramSolver.COL, 1);
        propagates("after two clues are gone", x, COMPLETE, "../#.");
        x.addNumber(NonogramSolver.COL, 1, 2);
        propagates("after a new number", x, CONTRADICTION, "??/??");
        x.clearLine(NonogramSolver.COL, 1);
        propagates("after it is gone", x, COMPLETE, "../#.");
    }

    private static void leavesTheRestUntouched() {
        NonogramSolver x = Puzzles.puzzle("1 1 -", "1 1 -");
        x.setGiven(2, 2, EMPTY);
        x.solve();
        String clues = Puzzles.clues(x);
        x.propagate();
        Check.due("clues after propagate()", Puzzles.clues(x), clues);
        Check.due("givens after propagate()", Puzzles.givens(x), "???/???/??.");
        Check.due("verdict() after propagate()", x.verdict(), NonogramSolver.MULTIPLE);
        Check.due("grid 0 after propagate()", Puzzles.stored(x, 0), ".#./#../...");
        Check.due("grid 1 after propagate()", Puzzles.stored(x, 1), "#../.#./...");

        NonogramSolver never = Puzzles.puzzle("1 1", "1 1");
        never.propagate();
        Check.due("verdict() after propagate() alone", never.verdict(), NonogramSolver.NOT_RUN);
        Check.due("grid 0 after propagate() alone", Puzzles.stored(never, 0), "??/??");
    }

    private static void statusFallsBackToNotRun() {
        NonogramSolver x = Puzzles.puzzle("1 1 -", "1 1 -");
        Check.due("propagateStatus() before propagate()", x.propagateStatus(), NonogramSolver.NOT_RUN);
        x.solve();
        Check.due("propagateStatus() after solve() alone", x.propagateStatus(), NonogramSolver.NOT_RUN);
        for (int way = 0; way < 3; way++) {
            x.propagate();
            x.solve();
            Check.due("knownCount() before the change", x.knownCount() > 0, true);
            boolean done = way == 0 ? x.setGiven(2, 2, EMPTY)
                : way == 1 ? x.clearLine(NonogramSolver.ROW, 2) : x.addNumber(NonogramSolver.ROW, 2, 1);
            Check.due("the change", done, true);
            Check.due("results after the change", Puzzles.results(x), Puzzles.resetResults(x));
        }
        x.propagate();
        String before = Puzzles.state(x);
        Check.due("a refused addNumber", x.addNumber(NonogramSolver.ROW, 3, 1), false);
        Check.due("a refused clearLine", x.clearLine(NonogramSolver.COL, 3), false);
        Check.due("a refused setGiven", x.setGiven(0, 0, 3), false);
        Check.due("state after refusals", Puzzles.state(x), before);
    }

    private static void readsKnownCells() {
        NonogramSolver x = Puzzles.puzzle("4 1 1", "1 1 2 1 1");
        x.propagate();
        String before = Puzzles.state(x);
        int[][] outside = {{-1, 0}, {3, 0}, {8, 0}, {0, -1}, {0, 5}, {0, 8}, {Integer.MIN_VALUE, 0},
            {Integer.MAX_VALUE, 0}, {0, Integer.MIN_VALUE}, {0, Integer.MAX_VALUE}, {-1, 8}, {1 << 29, 0}};
        for (int[] o : outside) {
            Check.due("known(" + o[0] + ", " + o[1] + ")", x.known(o[0], o[1]), NonogramSolver.INVALID);
        }
        Check.due("known(0, 0)", x.known(0, 0), UNKNOWN);
        Check.due("known(0, 1)", x.known(0, 1), FILLED);
        Check.due("known(1, 0)", x.known(1, 0), EMPTY);
        Check.due("known(2, 4)", x.known(2, 4), UNKNOWN);
        Check.due("knownCount()", x.knownCount(), 11);
        Check.due("state after reading", Puzzles.state(x), before);
        NonogramSolver fresh = new NonogramSolver(2, 2);
        Check.due("known(2, 2) before propagate()", fresh.known(2, 2), NonogramSolver.INVALID);
    }
}
