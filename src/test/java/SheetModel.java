import java.util.ArrayList;
import java.util.Arrays;
import java.util.Comparator;
import java.util.HashSet;
import java.util.List;
import java.util.Set;

/**
 * The sheet written straight from the words of the document, with no thought of speed. It finds
 * everything by other means than the program, so that the two are not wrong in the same way.
 */
final class SheetModel {
    private static final int NONE = -99;
    /** Up to this many assignments, the least solution is sought among all of them. */
    private static final int FEW = 5000;

    private final int n;
    private final int t;
    private final List<List<Integer>> formulas = new ArrayList<>();
    private List<Integer> draft = new ArrayList<>();
    private int[] shown;
    private int[] deltas;
    private int editedCell = NONE;

    SheetModel(int cells, int top) {
        n = Math.max(2, Math.min(12, cells));
        t = Math.max(1, Math.min(15, top));
        for (int c = 0; c < n; c++) {
            formulas.add(List.of(0));
        }
        shown = new int[n];
        deltas = new int[n];
    }

    int push(int kind, int arg) {
        if (kind < 0 || kind > 5) {
            return 1;
        }
        if (draft.size() == 8) {
            return 2;
        }
        boolean bad = kind == 0 && (arg < 0 || arg > t)
            || kind == 1 && (arg < 0 || arg >= n)
            || kind == 5 && (arg < 1 || arg > t);
        if (bad) {
            return 3;
        }
        if (kind >= 2 && depth(draft) < 2) {
            return 4;
        }
        draft.add(100 * kind + (kind == 2 || kind == 3 || kind == 4 ? 0 : arg));
        return 0;
    }

    void dropDraft() {
        draft = new ArrayList<>();
    }

    int commit(int cell) {
        if (!inside(cell)) {
            return 5;
        }
        if (depth(draft) != 1) {
            return 6;
        }
        edit(cell, List.copyOf(draft));
        draft = new ArrayList<>();
        return 0;
    }

    int setInput(int cell, int v) {
        if (!inside(cell)) {
            return 5;
        }
        if (v < 0 || v > t) {
            return 3;
        }
        edit(cell, List.of(v));
        return 0;
    }

    int value(int cell) {
        return inside(cell) ? shown[cell] : NONE;
    }

    int delta(int cell) {
        return inside(cell) ? deltas[cell] : NONE;
    }

    int edited() {
        return editedCell;
    }

    boolean depends(int cell, int other) {
        return inside(cell) && inside(other) && below(cell).contains(other);
    }

    int leader(int cell) {
        if (!inside(cell)) {
            return NONE;
        }
        int least = cell;
        for (int d = 0; d < n; d++) {
            if (depends(cell, d) && depends(d, cell)) {
                least = Math.min(least, d);
            }
        }
        return least;
    }

    List<Integer> order() {
        List<Integer> cells = new ArrayList<>();
        for (int c = n - 1; c >= 0; c--) {
            cells.add(c);
        }
        cells.sort(Comparator.comparing(this::rank).thenComparing(this::leader)
            .thenComparing(Comparator.naturalOrder()));
        return cells;
    }

    int length(int cell) {
        return cell == -1 ? draft.size() : inside(cell) ? formulas.get(cell).size() : NONE;
    }

    int tokenAt(int cell, int i) {
        if (i < 0 || i >= length(cell)) {
            return NONE;
        }
        return cell == -1 ? draft.get(i) : formulas.get(cell).get(i);
    }

    int cellCount() {
        return n;
    }

    int topValue() {
        return t;
    }

    private boolean inside(int cell) {
        return 0 <= cell && cell < n;
    }

    private static int depth(List<Integer> tokens) {
        int depth = 0;
        for (int token : tokens) {
            depth += token / 100 < 2 ? 1 : -1;
        }
        return depth;
    }

    private void edit(int cell, List<Integer> formula) {
        int[] old = shown;
        formulas.set(cell, formula);
        double assignments = Math.pow(t + 1, n);
        shown = assignments <= FEW ? leastOfAll() : leastBySteps();
        deltas = new int[n];
        for (int c = 0; c < n; c++) {
            deltas[c] = shown[c] - old[c];
        }
        editedCell = cell;
    }

    private int[] results(int[] w) {
        int[] results = new int[n];
        for (int c = 0; c < n; c++) {
            List<Integer> stack = new ArrayList<>();
            for (int token : formulas.get(c)) {
                apply(token / 100, token % 100, stack, w);
            }
            results[c] = stack.get(0);
        }
        return results;
    }

    private void apply(int kind, int k, List<Integer> stack, int[] w) {
        if (kind < 2) {
            stack.add(kind == 0 ? k : w[k]);
            return;
        }
        int y = stack.remove(stack.size() - 1);
        int x = stack.remove(stack.size() - 1);
        int result = kind == 2 ? Math.min(x, y)
            : kind == 3 ? Math.max(x, y)
            : kind == 4 ? Math.min(x + y, t)
            : x >= k ? y : 0;
        stack.add(result);
    }

    /** Cell by cell the least of all solutions, which is a solution itself. */
    private int[] leastOfAll() {
        int[] least = new int[n];
        Arrays.fill(least, t);
        int[] w = new int[n];
        boolean more = true;
        while (more) {
            if (Arrays.equals(results(w), w)) {
                for (int c = 0; c < n; c++) {
                    least[c] = Math.min(least[c], w[c]);
                }
            }
            more = next(w);
        }
        return least;
    }

    private boolean next(int[] w) {
        for (int c = 0; c < n; c++) {
            if (w[c] < t) {
                w[c]++;
                return true;
            }
            w[c] = 0;
        }
        return false;
    }

    private int[] leastBySteps() {
        int[] w = new int[n];
        int[] after = results(w);
        while (!Arrays.equals(w, after)) {
            w = after;
            after = results(w);
        }
        return w;
    }

    private Set<Integer> below(int cell) {
        Set<Integer> found = new HashSet<>();
        List<Integer> open = new ArrayList<>(List.of(cell));
        while (!open.isEmpty()) {
            int c = open.remove(open.size() - 1);
            for (int token : formulas.get(c)) {
                if (token / 100 == 1 && found.add(token % 100)) {
                    open.add(token % 100);
                }
            }
        }
        return found;
    }

    private int rank(int cell) {
        int rank = 0;
        for (int d = 0; d < n; d++) {
            if (d != cell && depends(cell, d) && !depends(d, cell)) {
                rank++;
            }
        }
        return rank;
    }
}
