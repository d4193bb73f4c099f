/** Promises 3, 4 and 5: appending a number, clearing a clue, reading a clue. */
public final class ClueTest {
    private static final int ROW = NonogramSolver.ROW;
    private static final int COL = NonogramSolver.COL;
    private static final int INVALID = NonogramSolver.INVALID;

    private ClueTest() {
    }

    public static void main(String[] args) {
        refusesWrongArguments();
        appendsAtTheEnd();
        rowsAndColumnsHaveTheirOwnLengths();
        refusesAFullClue();
        takesExactlyTheNumbersThatFit();
        successResetsResults();
        clears();
        readsClues();
        Check.end();
    }

    /** A puzzle with every kind of state set, so that any change shows. */
    private static NonogramSolver busy() {
        NonogramSolver x = Puzzles.puzzle("1 2 -", "1 - 1 1 -");
        x.setGiven(0, 0, NonogramSolver.FILLED);
        x.propagate();
        x.solve();
        return x;
    }

    private static void refusesWrongArguments() {
        NonogramSolver x = busy();
        String before = Puzzles.state(x);
        int[][] wrong = {
            {2, 0, 1}, {-1, 0, 1}, {3, 0, 1}, {Integer.MIN_VALUE, 0, 1}, {Integer.MAX_VALUE, 0, 1},
            {ROW, -1, 1}, {ROW, 3, 1}, {ROW, 4, 1}, {ROW, 8, 1}, {ROW, Integer.MIN_VALUE, 1},
            {ROW, Integer.MAX_VALUE, 1},
            {COL, -1, 1}, {COL, 5, 1}, {COL, 8, 1}, {COL, Integer.MIN_VALUE, 1}, {COL, Integer.MAX_VALUE, 1},
            {ROW, 2, 0}, {ROW, 2, -1}, {ROW, 2, 6}, {ROW, 2, Integer.MIN_VALUE}, {ROW, 2, Integer.MAX_VALUE},
            {COL, 4, 0}, {COL, 4, -1}, {COL, 4, 4}, {COL, 4, Integer.MIN_VALUE}, {COL, 4, Integer.MAX_VALUE},
            {ROW, 1, 3}, {ROW, 1, Integer.MAX_VALUE}, {COL, 0, 2}, {COL, 0, Integer.MAX_VALUE},
        };
        for (int[] w : wrong) {
            String call = "addNumber(" + w[0] + ", " + w[1] + ", " + w[2] + ")";
            Check.due(call, x.addNumber(w[0], w[1], w[2]), false);
            Check.due("state after " + call, Puzzles.state(x), before);
        }
    }

    private static void appendsAtTheEnd() {
        NonogramSolver x = new NonogramSolver(8, 8);
        Check.due("addNumber(0, 3, 1)", x.addNumber(ROW, 3, 1), true);
        Check.due("addNumber(0, 3, 3)", x.addNumber(ROW, 3, 3), true);
        Check.due("addNumber(0, 3, 2)", x.addNumber(ROW, 3, 2), true);
        Check.due("addNumber(1, 3, 4)", x.addNumber(COL, 3, 4), true);
        Check.due("addNumber(1, 0, 2)", x.addNumber(COL, 0, 2), true);
        Check.due("addNumber(1, 0, 1)", x.addNumber(COL, 0, 1), true);
        Check.due("clues", Puzzles.clues(x), " r0: r1: r2: r3:1,3,2 r4: r5: r6: r7:"
            + " c0:2,1 c1: c2: c3:4 c4: c5: c6: c7:");
        Check.due("givens", Puzzles.givens(x), Puzzles.blank(x));
    }

    private static void rowsAndColumnsHaveTheirOwnLengths() {
        NonogramSolver x = new NonogramSolver(2, 6);
        Check.due("2x6 addNumber(0, 1, 6)", x.addNumber(ROW, 1, 6), true);
        Check.due("2x6 addNumber(0, 0, 7)", x.addNumber(ROW, 0, 7), false);
        Check.due("2x6 addNumber(0, 2, 1)", x.addNumber(ROW, 2, 1), false);
        Check.due("2x6 addNumber(1, 5, 2)", x.addNumber(COL, 5, 2), true);
        Check.due("2x6 addNumber(1, 4, 3)", x.addNumber(COL, 4, 3), false);
        Check.due("2x6 addNumber(1, 6, 1)", x.addNumber(COL, 6, 1), false);
        Check.due("2x6 clues", Puzzles.clues(x), " r0: r1:6 c0: c1: c2: c3: c4: c5:2");
    }

    private static void refusesAFullClue() {
        for (int kind = ROW; kind <= COL; kind++) {
            NonogramSolver x = new NonogramSolver(8, 8);
            for (int i = 0; i < 4; i++) {
                Check.due("addNumber(" + kind + ", 7, 1) as number " + i, x.addNumber(kind, 7, 1), true);
            }
            x.propagate();
            x.solve();
            String before = Puzzles.state(x);
            Check.due("addNumber(" + kind + ", 7, 1) to a full clue", x.addNumber(kind, 7, 1), false);
            Check.due("state after it", Puzzles.state(x), before);
            Check.due("clueCount of a full clue", x.clueCount(kind, 7), 4);
        }
    }

    private static void takesExactlyTheNumbersThatFit() {
        for (int length = 1; length <= 8; length++) {
            for (int kind = ROW; kind <= COL; kind++) {
                for (int a = 1; a <= length; a++) {
                    for (int b = 1; b <= length + 1; b++) {
                        NonogramSolver x = kind == ROW ? new NonogramSolver(3, length) : new NonogramSolver(length, 3);
                        String run = "length " + length + ": " + a + " then " + b + " in kind " + kind;
                        Check.due(run + ", the first", x.addNumber(kind, 1, a), true);
                        Check.due(run + ", the second", x.addNumber(kind, 1, b), a + 1 + b <= length);
                        Check.due(run + ", count", x.clueCount(kind, 1), a + 1 + b <= length ? 2 : 1);
                    }
                }
            }
        }
        NonogramSolver x = new NonogramSolver(8, 8);
        x.addNumber(ROW, 0, 2);
        x.addNumber(ROW, 0, 2);
        Check.due("2,2 then 3 in eight cells", x.addNumber(ROW, 0, 3), false);
        Check.due("2,2 then 2 in eight cells", x.addNumber(ROW, 0, 2), true);
        Check.due("2,2,2 then 1 in eight cells", x.addNumber(ROW, 0, 1), false);
        Check.due("clueCount(0, 0)", x.clueCount(ROW, 0), 3);
    }

    private static void successResetsResults() {
        NonogramSolver x = busy();
        Check.due("addNumber(1, 4, 1)", x.addNumber(COL, 4, 1), true);
        Check.due("results after addNumber", Puzzles.results(x), Puzzles.resetResults(x));
        Check.due("givens after addNumber", Puzzles.givens(x), "#????/?????/?????");
        Check.due("clues after addNumber", Puzzles.clues(x), " r0:1 r1:2 r2: c0:1 c1: c2:1 c3:1 c4:1");
    }

    private static void clears() {
        NonogramSolver x = busy();
        String before = Puzzles.state(x);
        int[][] wrong = {{2, 0}, {-1, 0}, {Integer.MAX_VALUE, 0}, {Integer.MIN_VALUE, 0}, {ROW, -1}, {ROW, 3}, {ROW, 8},
            {ROW, Integer.MAX_VALUE}, {ROW, Integer.MIN_VALUE}, {COL, -1}, {COL, 5}, {COL, 8}, {COL, Integer.MAX_VALUE},
            {COL, Integer.MIN_VALUE}};
        for (int[] w : wrong) {
            String call = "clearLine(" + w[0] + ", " + w[1] + ")";
            Check.due(call, x.clearLine(w[0], w[1]), false);
            Check.due("state after " + call, Puzzles.state(x), before);
        }
        Check.due("clearLine(0, 1)", x.clearLine(ROW, 1), true);
        Check.due("clues after clearLine", Puzzles.clues(x), " r0:1 r1: r2: c0:1 c1: c2:1 c3:1 c4:");
        Check.due("givens after clearLine", Puzzles.givens(x), "#????/?????/?????");
        Check.due("results after clearLine", Puzzles.results(x), Puzzles.resetResults(x));
        x.propagate();
        x.solve();
        Check.due("clearLine(1, 4), empty already", x.clearLine(COL, 4), true);
        Check.due("results after it", Puzzles.results(x), Puzzles.resetResults(x));
        Check.due("clearLine(1, 0)", x.clearLine(COL, 0), true);
        Check.due("clues after it", Puzzles.clues(x), " r0:1 r1: r2: c0: c1: c2:1 c3:1 c4:");
        x.addNumber(ROW, 1, 5);
        Check.due("a number after clearing", x.clueNumber(ROW, 1, 0), 5);
        Check.due("the count after clearing", x.clueCount(ROW, 1), 1);
        Check.due("the old second number", x.clueNumber(ROW, 1, 1), INVALID);
    }

    private static void readsClues() {
        NonogramSolver x = Puzzles.puzzle("2,1,1,1 1,3 8 -", "1 1 1 1 1 1 1 4");
        x.propagate();
        x.solve();
        String before = Puzzles.state(x);
        int[][] wrong = {{2, 0}, {-1, 0}, {Integer.MAX_VALUE, 0}, {Integer.MIN_VALUE, 0}, {ROW, -1}, {ROW, 4}, {ROW, 8},
            {ROW, Integer.MAX_VALUE}, {ROW, Integer.MIN_VALUE}, {COL, -1}, {COL, 8}, {COL, Integer.MAX_VALUE},
            {COL, Integer.MIN_VALUE}};
        for (int[] w : wrong) {
            Check.due("clueCount(" + w[0] + ", " + w[1] + ")", x.clueCount(w[0], w[1]), INVALID);
            Check.due("clueNumber(" + w[0] + ", " + w[1] + ", 0)", x.clueNumber(w[0], w[1], 0), INVALID);
        }
        int[][] right = {{ROW, 0, 0, 2}, {ROW, 0, 1, 1}, {ROW, 0, 3, 1}, {ROW, 1, 0, 1}, {ROW, 1, 1, 3}, {ROW, 2, 0, 8},
            {COL, 7, 0, 4}, {ROW, 0, -1, INVALID}, {ROW, 0, 4, INVALID}, {ROW, 1, 2, INVALID}, {ROW, 1, 3, INVALID},
            {ROW, 3, 0, INVALID}, {ROW, 3, -1, INVALID}, {ROW, 3, 1, INVALID}, {COL, 7, 1, INVALID},
            {ROW, 1, -1, INVALID}, {ROW, 0, Integer.MIN_VALUE, INVALID}, {ROW, 0, Integer.MAX_VALUE, INVALID}};
        for (int[] w : right) {
            Check.due("clueNumber(" + w[0] + ", " + w[1] + ", " + w[2] + ")", x.clueNumber(w[0], w[1], w[2]), w[3]);
        }
        Check.due("clueCount(0, 0)", x.clueCount(ROW, 0), 4);
        Check.due("clueCount(0, 1)", x.clueCount(ROW, 1), 2);
        Check.due("clueCount(0, 3)", x.clueCount(ROW, 3), 0);
        Check.due("clueCount(1, 7)", x.clueCount(COL, 7), 1);
        Check.due("state after reading", Puzzles.state(x), before);
    }
}
