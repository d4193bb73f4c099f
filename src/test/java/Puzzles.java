/** Makes puzzles from short texts and reads grids and whole states back as text. */
final class Puzzles {
    private Puzzles() {
    }

    /** Clues are separated by blanks, numbers by commas; '-' is the empty clue. */
    static NonogramSolver puzzle(String rowClues, String colClues) {
        String[] rows = rowClues.split(" ");
        String[] cols = colClues.split(" ");
        NonogramSolver x = new NonogramSolver(rows.length, cols.length);
        addClues(x, NonogramSolver.ROW, rows);
        addClues(x, NonogramSolver.COL, cols);
        return x;
    }

    private static void addClues(NonogramSolver x, int kind, String[] clues) {
        for (int line = 0; line < clues.length; line++) {
            if (clues[line].equals("-")) {
                continue;
            }
            for (String n : clues[line].split(",")) {
                Check.due("addNumber(" + kind + ", " + line + ", " + n + ")",
                    x.addNumber(kind, line, Integer.parseInt(n)), true);
            }
        }
    }

    /** The clues of a grid whose rows are separated by '/'; '.' is EMPTY and '#' FILLED. */
    static NonogramSolver ofGrid(String grid) {
        return puzzle(cluesOf(grid), cluesOf(turned(grid)));
    }

    /** The grid with rows for columns. */
    static String turned(String grid) {
        String[] rows = grid.split("/");
        StringBuilder text = new StringBuilder();
        for (int c = 0; c < rows[0].length(); c++) {
            text.append(c == 0 ? "" : "/");
            for (String row : rows) {
                text.append(row.charAt(c));
            }
        }
        return text.toString();
    }

    private static String cluesOf(String grid) {
        StringBuilder text = new StringBuilder();
        for (String row : grid.split("/")) {
            text.append(text.length() == 0 ? "" : " ").append(SmallPuzzles.clueOf(row));
        }
        return text.toString();
    }

    /** Rows are separated by '/'; '?' is UNKNOWN, '.' EMPTY and '#' FILLED. */
    static String known(NonogramSolver x) {
        StringBuilder text = new StringBuilder();
        for (int r = 0; r < x.rows(); r++) {
            text.append(r == 0 ? "" : "/");
            for (int c = 0; c < x.cols(); c++) {
                text.append(sign(x.known(r, c)));
            }
        }
        return text.toString();
    }

    static String stored(NonogramSolver x, int k) {
        StringBuilder text = new StringBuilder();
        for (int r = 0; r < x.rows(); r++) {
            text.append(r == 0 ? "" : "/");
            for (int c = 0; c < x.cols(); c++) {
                text.append(sign(x.solutionCell(k, r, c)));
            }
        }
        return text.toString();
    }

    static String givens(NonogramSolver x) {
        StringBuilder text = new StringBuilder();
        for (int r = 0; r < x.rows(); r++) {
            text.append(r == 0 ? "" : "/");
            for (int c = 0; c < x.cols(); c++) {
                text.append(sign(x.given(r, c)));
            }
        }
        return text.toString();
    }

    static String clues(NonogramSolver x) {
        StringBuilder text = new StringBuilder();
        for (int kind = NonogramSolver.ROW; kind <= NonogramSolver.COL; kind++) {
            int lines = kind == NonogramSolver.ROW ? x.rows() : x.cols();
            for (int line = 0; line < lines; line++) {
                text.append(kind == 0 ? " r" : " c").append(line).append(':');
                for (int i = 0; i < x.clueCount(kind, line); i++) {
                    text.append(i == 0 ? "" : ",").append(x.clueNumber(kind, line, i));
                }
            }
        }
        return text.toString();
    }

    static String results(NonogramSolver x) {
        return "status " + x.propagateStatus() + " known " + x.knownCount() + " " + known(x)
            + " verdict " + x.verdict() + " stored " + stored(x, 0) + " and " + stored(x, 1);
    }

    static String blank(NonogramSolver x) {
        StringBuilder text = new StringBuilder();
        for (int r = 0; r < x.rows(); r++) {
            text.append(r == 0 ? "" : "/");
            for (int c = 0; c < x.cols(); c++) {
                text.append('?');
            }
        }
        return text.toString();
    }

    static String resetResults(NonogramSolver x) {
        return "status 3 known 0 " + blank(x) + " verdict 3 stored " + blank(x) + " and " + blank(x);
    }

    static String state(NonogramSolver x) {
        return x.rows() + "x" + x.cols() + clues(x) + " givens " + givens(x) + " " + results(x);
    }

    private static char sign(int value) {
        switch (value) {
            case 0: return '?';
            case 1: return '.';
            case 2: return '#';
            default: return 'X';
        }
    }
}
