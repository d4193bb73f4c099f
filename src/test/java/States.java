import java.util.ArrayList;
import java.util.List;
import java.util.function.Predicate;
import java.util.function.Supplier;
import java.util.function.ToIntFunction;
import java.util.stream.IntStream;

/**
 * Objects in every kind of state: smallest, greatest and uneven sizes, each status, each verdict, one result or both or
 * none, clues empty and full, no cell given and every cell given.
 */
final class States {
    private static final String EIGHT_FULL = "1,1,1,1 1,1,1,1 1,1,1,1 1,1,1,1 1,1,1,1 1,1,1,1 1,1,1,1 1,1,1,1";

    private States() {
    }

    /** One of the states; it makes a new object for every call that is tried on it. */
    static final class State {
        final String name;
        private final Supplier<NonogramSolver> maker;
        private String readApart = "";
        private String laterAnswers = "";

        State(String name, Supplier<NonogramSolver> maker) {
            this.name = name;
            this.maker = maker;
        }

        NonogramSolver make() {
            return maker.get();
        }

        /** The call answers false and changes nothing, neither what can be read nor what comes of later calls. */
        void refuses(String call, Predicate<NonogramSolver> made) {
            NonogramSolver x = make();
            Check.due(name + ": " + call, made.test(x), false);
            isUnchanged(call, x);
        }

        /** The call answers INVALID and changes nothing. */
        void answersInvalid(String call, ToIntFunction<NonogramSolver> made) {
            answers(call, made, NonogramSolver.INVALID);
        }

        /** The call answers as due and changes nothing. */
        void answers(String call, ToIntFunction<NonogramSolver> made, int due) {
            NonogramSolver x = make();
            Check.due(name + ": " + call, made.applyAsInt(x), due);
            isUnchanged(call, x);
        }

        /** The call answers true and resets both results. */
        void resetsAtTrue(String call, Predicate<NonogramSolver> made) {
            NonogramSolver x = make();
            Check.due(name + ": " + call, made.test(x), true);
            Check.due(name + ": results after " + call, Puzzles.results(x), Puzzles.resetResults(x));
        }

        private void isUnchanged(String call, NonogramSolver x) {
            if (readApart.isEmpty()) {
                readApart = readApart();
                laterAnswers = laterAnswers(make());
            }
            Check.due(name + ": state after " + call, Puzzles.state(x), readApart);
            Check.due(name + ": later answers after " + call, laterAnswers(x), laterAnswers);
        }

        /** The text of Puzzles.state, but each getter is called on a new object, so that none can hide what another does. */
        private String readApart() {
            return make().rows() + "x" + make().cols() + Puzzles.clues(make()) + " givens " + Puzzles.givens(make())
                + " status " + make().propagateStatus() + " known " + make().knownCount() + " " + Puzzles.known(make())
                + " verdict " + make().verdict() + " stored " + Puzzles.stored(make(), 0) + " and "
                + Puzzles.stored(make(), 1);
        }
    }

    private static String laterAnswers(NonogramSolver x) {
        StringBuilder text = new StringBuilder();
        text.append(x.propagate()).append(x.solve()).append(Puzzles.state(x));
        for (int line = 0; line < 8; line++) {
            text.append(x.addNumber(NonogramSolver.ROW, line, 1)).append(x.addNumber(NonogramSolver.COL, line, 1));
        }
        return text.append(Puzzles.state(x)).toString();
    }

    static List<State> all() {
        List<State> states = new ArrayList<>();
        states.add(new State("fresh 1x1", () -> new NonogramSolver(1, 1)));
        states.add(new State("fresh 8x8", () -> new NonogramSolver(8, 8)));
        states.add(new State("fresh 3x5", () -> new NonogramSolver(3, 5)));
        states.add(new State("fresh 5x3", () -> new NonogramSolver(5, 3)));
        states.add(new State("1x1 complete, unique", () -> both(Puzzles.puzzle("1", "1"))));
        states.add(new State("1x8 complete, unique, a full clue",
            () -> both(Puzzles.puzzle("2,1,1,1", "1 1 - 1 - 1 - 1"))));
        states.add(new State("8x1 complete, unique, a full clue",
            () -> both(Puzzles.puzzle("1 1 - 1 - 1 - 1", "2,1,1,1"))));
        states.add(new State("8x8 stalled, multiple, full clues", () -> both(Puzzles.puzzle(EIGHT_FULL, EIGHT_FULL))));
        states.add(new State("3x5 stalled, multiple, a cell given", () -> both(cornersGiven("1 1 -", "1 1 - - -"))));
        states.add(new State("5x3 contradiction, none", () -> both(Puzzles.puzzle("1 - 1,1 - 1", "1 2 1"))));
        states.add(new State("4x4 stalled, none", () -> both(Puzzles.puzzle("2 3 3 2", "2 3 3 1,1"))));
        states.add(new State("3x4 stalled, unique", () -> both(Puzzles.puzzle("1,1 1,1 2", "2 1 1 2"))));
        states.add(new State("2x2 complete, unique, every cell given", () -> both(diagonalGiven())));
        states.add(new State("3x5 with clues and givens, nothing run", () -> cornersGiven("1 1 -", "1 1 - - -")));
        states.add(new State("5x3 with a contradiction, nothing run", () -> Puzzles.puzzle("1 - 1,1 - 1", "1 2 1")));
        states.add(new State("3x4 unique, nothing run", () -> Puzzles.puzzle("1,1 1,1 2", "2 1 1 2")));
        states.add(new State("3x5 propagated alone", () -> {
            NonogramSolver x = cornersGiven("1 1 -", "1 1 - - -");
            x.propagate();
            return x;
        }));
        states.add(new State("3x5 solved alone", () -> {
            NonogramSolver x = cornersGiven("1 1 -", "1 1 - - -");
            x.solve();
            return x;
        }));
        return states;
    }

    /** Arguments that are not in 0..bound-1: just outside, and such that products and sums of indices wrap around. */
    static int[] outside(int bound) {
        return IntStream.of(-1, -2, -8, -9, -64, bound, bound + 1, 8, 9, 15, 16, 63, 64, 256, 65536, 1 << 26, 1 << 28, 1 << 29,
            1 << 30, 1 << 31, -(1 << 29), Integer.MIN_VALUE + 1, Integer.MAX_VALUE - 1, Integer.MAX_VALUE)
            .filter(i -> i < 0 || i >= bound).toArray();
    }

    /** Arguments that are neither 0 nor 1. */
    static int[] neither0Nor1() {
        return new int[] {2, -1, 3, -2, 4, 8, 16, 256, 257, 65536, 65537, 1 << 26, 1 << 28, 1 << 29, 1 << 30, 1 << 31,
            Integer.MIN_VALUE + 1, Integer.MAX_VALUE - 1, Integer.MAX_VALUE};
    }

    private static NonogramSolver both(NonogramSolver x) {
        x.propagate();
        x.solve();
        return x;
    }

    private static NonogramSolver cornersGiven(String rowClues, String colClues) {
        NonogramSolver x = Puzzles.puzzle(rowClues, colClues);
        x.setGiven(0, x.cols() - 1, NonogramSolver.EMPTY);
        x.setGiven(x.rows() - 1, x.cols() - 1, NonogramSolver.EMPTY);
        return x;
    }

    private static NonogramSolver diagonalGiven() {
        NonogramSolver x = Puzzles.puzzle("1 1", "1 1");
        for (int r = 0; r < 2; r++) {
            for (int c = 0; c < 2; c++) {
                x.setGiven(r, c, r == c ? NonogramSolver.FILLED : NonogramSolver.EMPTY);
            }
        }
        return x;
    }
}
