/** Promises 1, 14 and 15: construction, the number of cells and the greatest value. */
public final class StartTest {
    public static void main(String[] args) {
        everyPair();
        cellsClamped();
        topClamped();
        formulasAtFirst();
        deltasAtFirst();
        noEditedCell();
        emptyDraft();
        noDependence();
        cellCountStays();
        topValueStays();
        sheetsAreApart();
        Check.end();
    }

    private static void sizes(LatticeSheet x, String made, int n, int t) {
        Check.due(made + ".cellCount()", x.cellCount(), n);
        Check.due(made + ".topValue()", x.topValue(), t);
    }

    private static int clamped(int v, int low, int high) {
        return Math.max(low, Math.min(high, v));
    }

    private static void everyPair() {
        Check.sentence("LatticeSheet(int cells, int top) accepts every pair of ints.");
        for (int cells : Check.any()) {
            for (int top : Check.any()) {
                LatticeSheet x = new LatticeSheet(cells, top);
                String made = "new(" + cells + ", " + top + ")";
                int n = clamped(cells, 2, 12);
                int t = clamped(top, 1, 15);
                sizes(x, made, n, t);
                Check.input(x, n - 1, t);
                Check.due(made + ".value(last)", x.value(n - 1), t);
            }
        }
    }

    private static void cellsClamped() {
        Check.sentence("N is cells clamped into 2..12: below 2 becomes 2, above 12 becomes 12.");
        for (int cells = 2; cells <= 12; cells++) {
            hasCells(cells, cells);
        }
        hasCells(1, 2);
        hasCells(0, 2);
        hasCells(-1, 2);
        hasCells(Check.LOW, 2);
        hasCells(13, 12);
        hasCells(14, 12);
        hasCells(Check.HIGH, 12);
        for (int cells : Check.outside(2, 12)) {
            hasCells(cells, cells < 2 ? 2 : 12);
        }
    }

    /** The number of cells shows in what is a cell and what is none. */
    private static void hasCells(int cells, int n) {
        LatticeSheet x = new LatticeSheet(cells, 5);
        String made = "new(" + cells + ", 5)";
        sizes(x, made, n, 5);
        Check.due(made + ".push(REF, " + (n - 1) + ")", x.push(1, n - 1), LatticeSheet.OK);
        Check.due(made + ".push(REF, " + n + ")", x.push(1, n), LatticeSheet.BAD_ARG);
        Check.due(made + ".commit(" + n + ")", x.commit(n), LatticeSheet.BAD_CELL);
        Check.due(made + ".setInput(" + n + ", 5)", x.setInput(n, 5), LatticeSheet.BAD_CELL);
        Check.due(made + ".commit(" + (n - 1) + ")", x.commit(n - 1), LatticeSheet.OK);
        Check.due(made + ".value(" + (n - 1) + ")", x.value(n - 1), 0);
        Check.due(made + ".value(" + n + ")", x.value(n), LatticeSheet.NONE);
    }

    private static void topClamped() {
        Check.sentence("T is top clamped into 1..15: below 1 becomes 1, above 15 becomes 15.");
        for (int top = 1; top <= 15; top++) {
            hasTop(top, top);
        }
        hasTop(0, 1);
        hasTop(-1, 1);
        hasTop(-2, 1);
        hasTop(Check.LOW, 1);
        hasTop(16, 15);
        hasTop(17, 15);
        hasTop(Check.HIGH, 15);
        for (int top : Check.outside(1, 15)) {
            hasTop(top, top < 1 ? 1 : 15);
        }
    }

    /** The greatest value shows in what is a value, and in where a sum stops. */
    private static void hasTop(int top, int t) {
        LatticeSheet x = new LatticeSheet(3, top);
        String made = "new(3, " + top + ")";
        sizes(x, made, 3, t);
        Check.input(x, 0, t);
        Check.due(made + ".setInput(0, " + (t + 1) + ")", x.setInput(0, t + 1), LatticeSheet.BAD_ARG);
        Check.formula(x, 1, 100, 1, 400);
        Check.due(made + ": T + 1", x.value(1), t);
    }

    private interface Start {
        void look(LatticeSheet x, String made, int n);
    }

    /** Every size there is, and sizes that are clamped. */
    private static void everyStart(Start start) {
        for (int cells = 0; cells <= 14; cells++) {
            for (int top = -1; top <= 17; top++) {
                String made = "new(" + cells + ", " + top + ")";
                start.look(new LatticeSheet(cells, top), made, clamped(cells, 2, 12));
            }
        }
    }

    private static void formulasAtFirst() {
        Check.sentence("At first the formula of every cell is the single token VALUE 0, "
            + "so all shown values are 0.");
        everyStart((x, made, n) -> {
            for (int c = 0; c < n; c++) {
                Check.reads(made, x, c, 0);
                Check.due(made + ".value(" + c + ")", x.value(c), 0);
            }
        });
    }

    private static void deltasAtFirst() {
        Check.sentence("All deltas are 0.");
        everyStart((x, made, n) -> {
            for (int c = 0; c < n; c++) {
                Check.due(made + ".delta(" + c + ")", x.delta(c), 0);
            }
        });
    }

    private static void noEditedCell() {
        Check.sentence("There is no edited cell.");
        everyStart((x, made, n) -> Check.due(made + ".edited()", x.edited(), LatticeSheet.NONE));
    }

    private static void emptyDraft() {
        Check.sentence("The draft is empty.");
        everyStart((x, made, n) -> {
            Check.reads(made, x, LatticeSheet.DRAFT);
            Check.due(made + ".commit(0)", x.commit(0), LatticeSheet.MALFORMED);
            Check.due(made + ".push(MIN, 0)", x.push(2, 0), LatticeSheet.SHORT);
        });
    }

    private static void noDependence() {
        Check.sentence("Consequently no cell depends on any cell, every cell is its own leader, "
            + "and the order of the sheet is 0, 1, ..., N-1.");
        everyStart((x, made, n) -> {
            for (int c = 0; c < n; c++) {
                Check.due(made + ".leader(" + c + ")", x.leader(c), c);
                Check.due(made + ".orderAt(" + c + ")", x.orderAt(c), c);
                for (int d = 0; d < n; d++) {
                    Check.due(made + ".depends(" + c + ", " + d + ")", x.depends(c, d), false);
                }
            }
        });
    }

    private static void cellCountStays() {
        Check.sentence("cellCount() answers N, the clamped number of cells. "
            + "It is the same at all times. The call changes nothing.");
        for (int cells : new int[] {-5, 1, 2, 5, 12, 13, 400}) {
            LatticeSheet x = new LatticeSheet(cells, 6);
            use(x, () -> Check.due("cellCount() of " + cells, x.cellCount(), clamped(cells, 2, 12)));
        }
        Check.changesNothing("cellCount()", x -> x.cellCount());
    }

    private static void topValueStays() {
        Check.sentence("topValue() answers T, the clamped greatest value. "
            + "It is the same at all times. The call changes nothing.");
        for (int top : new int[] {-5, 0, 1, 6, 15, 16, 400}) {
            LatticeSheet x = new LatticeSheet(5, top);
            use(x, () -> Check.due("topValue() of " + top, x.topValue(), clamped(top, 1, 15)));
        }
        Check.changesNothing("topValue()", x -> x.topValue());
    }

    /** Accepted and refused calls of every kind, each followed by the question. */
    private static void use(LatticeSheet x, Runnable question) {
        Runnable[] calls = {
            () -> { },
            () -> x.push(1, 1),
            () -> x.push(0, 1),
            () -> x.push(4, 0),
            () -> x.push(9, 9),
            () -> x.commit(99),
            () -> x.commit(1),
            () -> x.commit(1),
            () -> x.setInput(0, 1),
            () -> x.setInput(1, 99),
            () -> x.push(0, 0),
            () -> x.dropDraft(),
        };
        for (Runnable call : calls) {
            call.run();
            question.run();
        }
    }

    private static void sheetsAreApart() {
        Check.sentence("N and T are fixed by the constructor and never change.");
        LatticeSheet x = new LatticeSheet(3, 4);
        LatticeSheet y = new LatticeSheet(7, 8);
        String before = Check.all(x);
        Check.formula(y, 1, 101, 1, 400);
        Check.draft(y, 102);
        Check.same("an edit of another sheet", before, Check.all(x));
        sizes(x, "the first sheet", 3, 4);
        sizes(y, "the second sheet", 7, 8);
    }
}
