/** Each sentence of promise 7 that names a boundary case. */
public final class Promise07Test {
    private Promise07Test() {
    }

    public static void main(String[] args) {
        Sentence.test("`given(int r, int c)` answers the given of cell `(r,c)`: UNKNOWN, EMPTY or FILLED.",
            Promise07Test::answersEveryValueInEveryCell);
        Sentence.test("INVALID when .. `r < 0`", () -> rowIsInvalid(true));
        Sentence.test("INVALID when .. `r >= rows()`", () -> rowIsInvalid(false));
        Sentence.test("INVALID when .. `c < 0`", () -> columnIsInvalid(true));
        Sentence.test("INVALID when .. `c >= cols()`", () -> columnIsInvalid(false));
        Sentence.test("It changes nothing.", Promise07Test::changesNothing);
        Check.end();
    }

    private static void answersEveryValueInEveryCell() {
        for (int[] size : new int[][] {{1, 1}, {1, 8}, {8, 1}, {3, 5}, {5, 3}, {8, 8}}) {
            for (int shift = 0; shift < 3; shift++) {
                NonogramSolver x = new NonogramSolver(size[0], size[1]);
                for (int r = 0; r < size[0]; r++) {
                    for (int c = 0; c < size[1]; c++) {
                        x.setGiven(r, c, (r * size[1] + c + shift) % 3);
                    }
                }
                for (int r = 0; r < size[0]; r++) {
                    for (int c = 0; c < size[1]; c++) {
                        Check.due(size[0] + "x" + size[1] + ": given(" + r + ", " + c + ")", x.given(r, c),
                            (r * size[1] + c + shift) % 3);
                    }
                }
            }
        }
    }

    private static void rowIsInvalid(boolean below) {
        for (States.State state : States.all()) {
            NonogramSolver sized = state.make();
            for (int r : States.outside(sized.rows())) {
                if (r < 0 == below) {
                    for (int c : new int[] {0, sized.cols() - 1, sized.cols(), 8, -1, 1 << 29}) {
                        state.answersInvalid("given(" + r + ", " + c + ")", x -> x.given(r, c));
                    }
                }
            }
        }
    }

    private static void columnIsInvalid(boolean below) {
        for (States.State state : States.all()) {
            NonogramSolver sized = state.make();
            for (int c : States.outside(sized.cols())) {
                if (c < 0 == below) {
                    for (int r : new int[] {0, sized.rows() - 1, sized.rows(), 1, -1, 1 << 29}) {
                        state.answersInvalid("given(" + r + ", " + c + ")", x -> x.given(r, c));
                    }
                }
            }
        }
    }

    private static void changesNothing() {
        for (States.State state : States.all()) {
            NonogramSolver sized = state.make();
            for (int r = 0; r < sized.rows(); r++) {
                for (int c = 0; c < sized.cols(); c++) {
                    int row = r;
                    int col = c;
                    state.answers("given(" + r + ", " + c + ")", x -> x.given(row, col), sized.given(r, c));
                }
            }
        }
    }
}
