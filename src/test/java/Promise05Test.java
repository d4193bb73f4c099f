/** Each sentence of promise 5 that names a boundary case. */
public final class Promise05Test {
    private static final int ROW = NonogramSolver.ROW;
    private static final int COL = NonogramSolver.COL;
    private static final int INVALID = NonogramSolver.INVALID;

    // Clues of 0, 1, 2, 3 and 4 numbers in rows and columns.
    private static final String ROW_CLUES = "- 8 1,2 2,1,3 1,2,1,1 - - 2,1,1,1";
    private static final String COL_CLUES = "1,1,1,2 - 3,4 1,1,4 7 1,1,2,1 - 5,2";

    private Promise05Test() {
    }

    public static void main(String[] args) {
        Sentence.test("`clueCount(int kind, int line)` answers the number of numbers (0..4) in the clue of that line.",
            Promise05Test::countsZeroToFour);
        Sentence.test("It answers INVALID when `kind` or `line` fails conditions 1 or 2 of `addNumber`.",
            Promise05Test::countOfNoLineIsInvalid);
        Sentence.test("`clueNumber(int kind, int line, int i)` answers the `i`-th number (counting from 0) of that clue",
            Promise05Test::firstToLastNumber);
        Sentence.test("the number appended as the `(i+1)`-th since the clue was last empty.",
            Promise05Test::countsSinceLastEmpty);
        Sentence.test("It answers INVALID when `kind` or `line` fails conditions 1 or 2 of `addNumber`",
            Promise05Test::numberOfNoLineIsInvalid);
        Sentence.test("or `i < 0`", Promise05Test::indexBelowZeroIsInvalid);
        Sentence.test("or `i >= clueCount(kind, line)`", Promise05Test::indexBehindTheLastIsInvalid);
        Sentence.test("(so every index of an empty clue gives INVALID)", Promise05Test::everyIndexOfAnEmptyClueIsInvalid);
        Sentence.test("Both change nothing.", Promise05Test::changeNothing);
        Check.end();
    }

    private static NonogramSolver everyCount() {
        return Puzzles.puzzle(ROW_CLUES, COL_CLUES);
    }

    private static int[] numbers(int kind, int line) {
        String clue = (kind == ROW ? ROW_CLUES : COL_CLUES).split(" ")[line];
        if (clue.equals("-")) {
            return new int[0];
        }
        String[] texts = clue.split(",");
        int[] numbers = new int[texts.length];
        for (int i = 0; i < texts.length; i++) {
            numbers[i] = Integer.parseInt(texts[i]);
        }
        return numbers;
    }

    private static void countsZeroToFour() {
        NonogramSolver x = everyCount();
        for (int kind = ROW; kind <= COL; kind++) {
            for (int line = 0; line < 8; line++) {
                Check.due("clueCount(" + kind + ", " + line + ")", x.clueCount(kind, line),
                    numbers(kind, line).length);
            }
        }
        for (int kind = ROW; kind <= COL; kind++) {
            NonogramSolver y = new NonogramSolver(8, 8);
            for (int count = 0; count <= 5; count++) {
                Check.due("clueCount(" + kind + ", 7) after " + count + " calls", y.clueCount(kind, 7), Math.min(4, count));
                y.addNumber(kind, 7, 1);
            }
        }
    }

    private static void countOfNoLineIsInvalid() {
        for (States.State state : States.all()) {
            for (int kind : States.neither0Nor1()) {
                state.answersInvalid("clueCount(" + kind + ", 0)", x -> x.clueCount(kind, 0));
            }
            state.answersInvalid("clueCount(2, -8)", x -> x.clueCount(2, -8));
            state.answersInvalid("clueCount(-1, 8)", x -> x.clueCount(-1, 8));
            for (int line : States.outside(state.make().rows())) {
                state.answersInvalid("clueCount(0, " + line + ")", x -> x.clueCount(ROW, line));
            }
            for (int line : States.outside(state.make().cols())) {
                state.answersInvalid("clueCount(1, " + line + ")", x -> x.clueCount(COL, line));
            }
        }
    }

    private static void firstToLastNumber() {
        NonogramSolver x = everyCount();
        for (int kind = ROW; kind <= COL; kind++) {
            for (int line = 0; line < 8; line++) {
                int[] due = numbers(kind, line);
                for (int i = 0; i < due.length; i++) {
                    Check.due("clueNumber(" + kind + ", " + line + ", " + i + ")", x.clueNumber(kind, line, i), due[i]);
                }
            }
        }
    }

    private static void countsSinceLastEmpty() {
        for (int kind = ROW; kind <= COL; kind++) {
            for (int line = 0; line < 8; line += 7) {
                NonogramSolver x = new NonogramSolver(8, 8);
                x.addNumber(kind, line, 2);
                x.addNumber(kind, line, 1);
                x.addNumber(kind, line, 3);
                x.clearLine(kind, line);
                x.addNumber(kind, line, 4);
                Check.due("the first number since", x.clueNumber(kind, line, 0), 4);
                Check.due("the old second number", x.clueNumber(kind, line, 1), INVALID);
                Check.due("the old third number", x.clueNumber(kind, line, 2), INVALID);
                x.addNumber(kind, line, 3);
                Check.due("the first number still", x.clueNumber(kind, line, 0), 4);
                Check.due("the second number since", x.clueNumber(kind, line, 1), 3);
                Check.due("the old third number still", x.clueNumber(kind, line, 2), INVALID);
            }
        }
    }

    private static void numberOfNoLineIsInvalid() {
        for (States.State state : States.all()) {
            for (int kind : States.neither0Nor1()) {
                state.answersInvalid("clueNumber(" + kind + ", 0, 0)", x -> x.clueNumber(kind, 0, 0));
            }
            state.answersInvalid("clueNumber(2, -8, 0)", x -> x.clueNumber(2, -8, 0));
            state.answersInvalid("clueNumber(-1, 8, 0)", x -> x.clueNumber(-1, 8, 0));
            for (int line : States.outside(state.make().rows())) {
                state.answersInvalid("clueNumber(0, " + line + ", 0)", x -> x.clueNumber(ROW, line, 0));
            }
            for (int line : States.outside(state.make().cols())) {
                state.answersInvalid("clueNumber(1, " + line + ", 0)", x -> x.clueNumber(COL, line, 0));
            }
        }
    }

    private static void indexBelowZeroIsInvalid() {
        for (States.State state : States.all()) {
            for (int i : new int[] {-1, -2, -4, -5, -8, -32, Integer.MIN_VALUE, Integer.MIN_VALUE + 1, -(1 << 30)}) {
                state.answersInvalid("clueNumber(0, last, " + i + ")", x -> x.clueNumber(ROW, x.rows() - 1, i));
                state.answersInvalid("clueNumber(1, last, " + i + ")", x -> x.clueNumber(COL, x.cols() - 1, i));
            }
        }
        NonogramSolver x = everyCount();
        for (int kind = ROW; kind <= COL; kind++) {
            for (int line = 0; line < 8; line++) {
                for (int i = -8; i < 0; i++) {
                    Check.due("clueNumber(" + kind + ", " + line + ", " + i + ")", x.clueNumber(kind, line, i), INVALID);
                }
            }
        }
    }

    private static void indexBehindTheLastIsInvalid() {
        NonogramSolver x = everyCount();
        for (int kind = ROW; kind <= COL; kind++) {
            for (int line = 0; line < 8; line++) {
                int count = numbers(kind, line).length;
                for (int i : new int[] {count, count + 1, count + 2, 4, 5, 8, 64, 1 << 30, Integer.MAX_VALUE - 1,
                    Integer.MAX_VALUE}) {
                    Check.due("clueNumber(" + kind + ", " + line + ", " + i + ")", x.clueNumber(kind, line, i), INVALID);
                }
            }
        }
    }

    private static void everyIndexOfAnEmptyClueIsInvalid() {
        NonogramSolver cleared = everyCount();
        for (int line = 0; line < 8; line++) {
            cleared.clearLine(ROW, line);
            cleared.clearLine(COL, line);
        }
        for (int line = 0; line < 8; line++) {
            for (int kind = ROW; kind <= COL; kind++) {
                for (int i = -2; i <= 9; i++) {
                    Check.due("fresh clueNumber(" + kind + ", " + line + ", " + i + ")",
                        new NonogramSolver(8, 8).clueNumber(kind, line, i), INVALID);
                    Check.due("cleared clueNumber(" + kind + ", " + line + ", " + i + ")",
                        cleared.clueNumber(kind, line, i), INVALID);
                }
            }
        }
    }

    private static void changeNothing() {
        for (States.State state : States.all()) {
            NonogramSolver sized = state.make();
            for (int kind = ROW; kind <= COL; kind++) {
                int k = kind;
                int last = (kind == ROW ? sized.rows() : sized.cols()) - 1;
                state.answers("clueCount(" + k + ", " + last + ")", x -> x.clueCount(k, last), sized.clueCount(k, last));
                state.answers("clueNumber(" + k + ", " + last + ", 0)", x -> x.clueNumber(k, last, 0),
                    sized.clueNumber(k, last, 0));
            }
        }
    }
}
