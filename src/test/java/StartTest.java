/** Promises 1, 14 and 15: construction, the number of cells and the greatest value. */
public final class StartTest {
    private static final int LOW = Integer.MIN_VALUE;
    private static final int HIGH = Integer.MAX_VALUE;

    public static void main(String[] args) {
        sizes();
        start();
        sizesStay();
        sheetsAreApart();
        Check.end();
    }

    private static int clamped(int v, int low, int high) {
        return Math.max(low, Math.min(high, v));
    }

    private static void sizes() {
        int[] given = {LOW, LOW + 1, -99, -1, 0, 1, 2, 3, 7, 11, 12, 13, 14, 15, 16, 99, HIGH - 1, HIGH};
        for (int cells : given) {
            for (int top : given) {
                LatticeSheet x = new LatticeSheet(cells, top);
                String made = "new(" + cells + ", " + top + ")";
                Check.due(made + ".cellCount()", x.cellCount(), clamped(cells, 2, 12));
                Check.due(made + ".topValue()", x.topValue(), clamped(top, 1, 15));
            }
        }
    }

    private static void start() {
        for (int n = 2; n <= 12; n++) {
            LatticeSheet x = new LatticeSheet(n, n);
            String made = "new sheet of " + n;
            for (int c = 0; c < n; c++) {
                Check.due(made + ": value", x.value(c), 0);
                Check.due(made + ": delta", x.delta(c), 0);
                Check.due(made + ": leader", x.leader(c), c);
                Check.due(made + ": orderAt", x.orderAt(c), c);
                Check.reads(made, x, c, 0);
                for (int d = 0; d < n; d++) {
                    Check.due(made + ": depends", x.depends(c, d), false);
                }
            }
            Check.due(made + ": edited", x.edited(), LatticeSheet.NONE);
            Check.reads(made, x, LatticeSheet.DRAFT);
        }
    }

    private static void sizesStay() {
        LatticeSheet x = new LatticeSheet(5, 6);
        Check.draft(x, 104, 6, 400);
        x.commit(3);
        x.setInput(4, 6);
        x.setInput(5, 7);
        x.dropDraft();
        Check.due("cellCount() after calls", x.cellCount(), 5);
        Check.due("topValue() after calls", x.topValue(), 6);
    }

    private static void sheetsAreApart() {
        LatticeSheet x = new LatticeSheet(3, 4);
        LatticeSheet y = new LatticeSheet(3, 4);
        String before = Check.all(y);
        Check.formula(x, 1, 101, 1, 400);
        Check.draft(x, 102);
        Check.same("an edit of another sheet", before, y);
    }
}
