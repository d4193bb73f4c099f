/** Each sentence of promise 4 that names a boundary case. */
public final class Promise04Test {
    private static final int ROW = NonogramSolver.ROW;
    private static final int COL = NonogramSolver.COL;

    private Promise04Test() {
    }

    public static void main(String[] args) {
        Sentence.test("`clearLine(int kind, int line)` applies conditions 1 and 2 of `addNumber` to `kind` and `line`; if"
            + " either fails, it answers `false` and changes nothing. (the kind)", Promise04Test::otherKindsFail);
        Sentence.test("`clearLine(int kind, int line)` applies conditions 1 and 2 of `addNumber` to `kind` and `line`; if"
            + " either fails, it answers `false` and changes nothing. (the line)", Promise04Test::linesOutOfRangeFail);
        Sentence.test("Otherwise it makes that clue empty", Promise04Test::makesTheClueEmpty);
        Sentence.test("(also when it already was empty)", Promise04Test::clearsTheEmptyClue);
        Sentence.test("resets both results, and answers `true`.", Promise04Test::resetsAtTrue);
        Sentence.test("No other clue and no given changes.", Promise04Test::nothingElseChanges);
        Check.end();
    }

    private static String call(int kind, int line) {
        return "clearLine(" + kind + ", " + line + ")";
    }

    private static void refuses(States.State state, int kind, int line) {
        state.refuses(call(kind, line), x -> x.clearLine(kind, line));
    }

    private static int lines(NonogramSolver x, int kind) {
        return kind == ROW ? x.rows() : x.cols();
    }

    private static void otherKindsFail() {
        for (States.State state : States.all()) {
            for (int kind : States.neither0Nor1()) {
                refuses(state, kind, 0);
            }
            refuses(state, -1, 8);
            refuses(state, -1, 16);
            refuses(state, 2, -8);
            refuses(state, 2, -16);
        }
    }

    private static void linesOutOfRangeFail() {
        for (States.State state : States.all()) {
            for (int kind = ROW; kind <= COL; kind++) {
                for (int line : States.outside(lines(state.make(), kind))) {
                    refuses(state, kind, line);
                }
            }
        }
        for (int size = 1; size <= 8; size++) {
            NonogramSolver x = new NonogramSolver(size, 9 - size);
            for (int line = -1; line <= 8; line++) {
                Check.due("row " + line + " of " + size, x.clearLine(ROW, line), line >= 0 && line < size);
                Check.due("column " + line + " of " + (9 - size), x.clearLine(COL, line), line >= 0 && line < 9 - size);
            }
        }
    }

    /** Every clue of 0 to 4 numbers, in the first line and in the last; a cleared clue takes all its numbers again. */
    private static void makesTheClueEmpty() {
        for (int kind = ROW; kind <= COL; kind++) {
            for (int line = 0; line < 8; line += 7) {
                for (int count = 1; count <= 4; count++) {
                    NonogramSolver x = new NonogramSolver(8, 8);
                    for (int again = 0; again < 2; again++) {
                        for (int i = 0; i < count; i++) {
                            Check.due("addNumber " + i, x.addNumber(kind, line, i == 3 ? 2 : 1), true);
                        }
                        Check.due(call(kind, line) + " with " + count + " numbers", x.clearLine(kind, line), true);
                        Check.due("clueCount after it", x.clueCount(kind, line), 0);
                        for (int i = 0; i < 4; i++) {
                            Check.due("clueNumber " + i + " after it", x.clueNumber(kind, line, i), NonogramSolver.INVALID);
                        }
                    }
                    Check.due("the whole line after it", x.addNumber(kind, line, 8), true);
                    Check.due("its number", x.clueNumber(kind, line, 0), 8);
                    x.clearLine(kind, line);
                    Check.due("propagate() after it", x.propagate(), NonogramSolver.COMPLETE);
                    Check.due("solve() after it", x.solve(), NonogramSolver.UNIQUE);
                }
            }
        }
    }

    private static void clearsTheEmptyClue() {
        for (States.State state : States.all()) {
            NonogramSolver sized = state.make();
            for (int kind = ROW; kind <= COL; kind++) {
                for (int line = 0; line < lines(sized, kind); line++) {
                    if (sized.clueCount(kind, line) == 0) {
                        int k = kind;
                        int at = line;
                        state.resetsAtTrue(call(k, at) + " of an empty clue", x -> x.clearLine(k, at));
                        NonogramSolver x = state.make();
                        x.clearLine(k, at);
                        Check.due(state.name + ": clueCount after it", x.clueCount(k, at), 0);
                        Check.due(state.name + ": clues after it", Puzzles.clues(x), Puzzles.clues(sized));
                    }
                }
            }
        }
    }

    private static void resetsAtTrue() {
        for (States.State state : States.all()) {
            for (int kind = ROW; kind <= COL; kind++) {
                for (int line = 0; line < lines(state.make(), kind); line++) {
                    int k = kind;
                    int at = line;
                    state.resetsAtTrue(call(k, at), x -> x.clearLine(k, at));
                }
            }
        }
    }

    private static void nothingElseChanges() {
        for (States.State state : States.all()) {
            NonogramSolver before = state.make();
            for (int kind = ROW; kind <= COL; kind++) {
                for (int line = 0; line < lines(before, kind); line++) {
                    NonogramSolver x = state.make();
                    x.clearLine(kind, line);
                    String mark = (kind == ROW ? " r" : " c") + line + ":";
                    Check.due(state.name + ": clues after " + call(kind, line), Puzzles.clues(x),
                        Puzzles.clues(before).replaceAll(mark + "[^ ]*", mark));
                    Check.due(state.name + ": givens after " + call(kind, line), Puzzles.givens(x), Puzzles.givens(before));
                }
            }
        }
    }
}
