import java.util.ArrayList;
import java.util.HashMap;
import java.util.LinkedHashSet;
import java.util.List;
import java.util.Map;

/** Every puzzle of a small size without givens, each with all its solutions in grid order; found by looking at every grid. */
final class SmallPuzzles {
    private SmallPuzzles() {
    }

    interface Use {
        void on(String name, NonogramSolver x, List<String> solutions);
    }

    static void each(int rows, int cols, Use use) {
        Map<String, List<String>> solutions = solutionsByClues(rows, cols);
        for (String rowClues : lists(rows, clues(cols))) {
            for (String colClues : lists(cols, clues(rows))) {
                String name = "rows " + rowClues + " columns " + colClues;
                use.on(name, Puzzles.puzzle(rowClues, colClues), solutions.getOrDefault(name, List.of()));
            }
        }
    }

    /** Every clue that a line of this length can have, as Puzzles reads it. */
    static List<String> clues(int length) {
        LinkedHashSet<String> clues = new LinkedHashSet<>();
        for (int bits = 0; bits < 1 << length; bits++) {
            clues.add(clueOf(filling(bits, length)));
        }
        return new ArrayList<>(clues);
    }

    /** Bits as a text of '.' and '#'; the first cell is the highest bit, so that rising numbers rise in grid order. */
    static String filling(int bits, int length) {
        StringBuilder text = new StringBuilder();
        for (int i = length - 1; i >= 0; i--) {
            text.append((bits >> i & 1) == 1 ? '#' : '.');
        }
        return text.toString();
    }

    static String clueOf(String filling) {
        StringBuilder clue = new StringBuilder();
        for (String run : filling.split("\\.+")) {
            if (!run.isEmpty()) {
                clue.append(clue.length() == 0 ? "" : ",").append(run.length());
            }
        }
        return clue.length() == 0 ? "-" : clue.toString();
    }

    private static Map<String, List<String>> solutionsByClues(int rows, int cols) {
        Map<String, List<String>> solutions = new HashMap<>();
        for (int bits = 0; bits < 1 << rows * cols; bits++) {
            String cells = filling(bits, rows * cols);
            StringBuilder grid = new StringBuilder();
            StringBuilder name = new StringBuilder("rows");
            for (int r = 0; r < rows; r++) {
                String row = cells.substring(r * cols, (r + 1) * cols);
                grid.append(r == 0 ? "" : "/").append(row);
                name.append(' ').append(clueOf(row));
            }
            name.append(" columns");
            for (int c = 0; c < cols; c++) {
                StringBuilder column = new StringBuilder();
                for (int r = 0; r < rows; r++) {
                    column.append(cells.charAt(r * cols + c));
                }
                name.append(' ').append(clueOf(column.toString()));
            }
            solutions.computeIfAbsent(name.toString(), key -> new ArrayList<>()).add(grid.toString());
        }
        return solutions;
    }

    private static List<String> lists(int count, List<String> clues) {
        List<String> lists = new ArrayList<>(clues);
        for (int i = 1; i < count; i++) {
            List<String> longer = new ArrayList<>();
            for (String list : lists) {
                for (String clue : clues) {
                    longer.add(list + " " + clue);
                }
            }
            lists = longer;
        }
        return lists;
    }
}
