import java.util.List;

/** All promises together: long runs of calls, every answer compared with the model's. */
public final class ModelTest {
    private static final int[] ANY = Check.any();
    private static long seed;

    public static void main(String[] args) {
        seed = 20261115L;
        for (int cells = 1; cells <= 13; cells++) {
            for (int top = 0; top <= 16; top++) {
                run(cells, top, 60);
            }
        }
        for (int i = 0; i < 40; i++) {
            run(2 + below(3), 1 + below(4), 150);
        }
        // What wears out only slowly, a draft or a table that is never cleared, needs a long run.
        run(12, 15, 1500);
        run(2, 1, 1500);
        run(Check.LOW, Check.HIGH, 300);
        run(Check.HIGH, Check.LOW, 300);
        Check.end();
    }

    /** A plain sequence of numbers, the same in every run of the tests. */
    private static int below(int bound) {
        seed = seed * 6364136223846793005L + 1442695040888963407L;
        return (int) ((seed >>> 33) % bound);
    }

    private static void run(int cells, int top, int calls) {
        LatticeSheet x = new LatticeSheet(cells, top);
        SheetModel m = new SheetModel(cells, top);
        String sheet = "sheet " + cells + ", " + top;
        for (int i = 0; i < calls; i++) {
            String call = sheet + ", call " + i + ": ";
            int choice = below(20);
            if (choice < 6) {
                oddCall(call, x, m);
            } else if (choice < 8) {
                int cell = below(m.cellCount());
                int v = below(m.topValue() + 1);
                Check.due(call + "setInput", x.setInput(cell, v), m.setInput(cell, v));
            } else {
                wholeFormula(call, x, m);
            }
            compare(call, x, m);
            oddQuestion(call, x, m, oddNumber(), oddNumber());
        }
    }

    /** Mostly a number at or near the edges, at times any int at all. */
    private static int oddNumber() {
        return below(5) == 0 ? ANY[below(ANY.length)] : below(18) - 2;
    }

    /** A call whose arguments may lie at or beyond the edges. */
    private static void oddCall(String call, LatticeSheet x, SheetModel m) {
        int a = oddNumber();
        int b = oddNumber();
        switch (below(5)) {
            case 0:
                Check.due(call + "commit(" + a + ")", x.commit(a), m.commit(a));
                break;
            case 1:
                Check.due(call + "setInput(" + a + ", " + b + ")", x.setInput(a, b), m.setInput(a, b));
                break;
            case 2:
                x.dropDraft();
                m.dropDraft();
                break;
            default:
                int kind = below(9) == 0 ? oddNumber() : below(8) - 1;
                Check.due(call + "push(" + kind + ", " + b + ")", x.push(kind, b), m.push(kind, b));
                break;
        }
    }

    /** Drafts 1 to 4 operands with their operators, in any order that does not run short. */
    private static void wholeFormula(String call, LatticeSheet x, SheetModel m) {
        x.dropDraft();
        m.dropDraft();
        int operands = 1 + below(4);
        int operators = operands - 1;
        int depth = 0;
        while (operands + operators > 0) {
            boolean operand = operands > 0 && (depth < 2 || below(2) == 0);
            int kind = operand ? (below(4) == 0 ? 0 : 1) : 2 + below(4);
            int arg = kind == 1 ? below(m.cellCount())
                : kind == 5 ? 1 + below(m.topValue())
                : below(m.topValue() + 1);
            Check.due(call + "push(" + kind + ", " + arg + ")", x.push(kind, arg), m.push(kind, arg));
            operands -= operand ? 1 : 0;
            operators -= operand ? 0 : 1;
            depth += operand ? 1 : -1;
        }
        int cell = below(m.cellCount());
        Check.due(call + "commit(" + cell + ")", x.commit(cell), m.commit(cell));
    }

    private static void compare(String call, LatticeSheet x, SheetModel m) {
        Check.due(call + "edited", x.edited(), m.edited());
        Check.due(call + "cellCount", x.cellCount(), m.cellCount());
        Check.due(call + "topValue", x.topValue(), m.topValue());
        List<Integer> order = m.order();
        for (int c = -2; c <= 12; c++) {
            compareCell(call, x, m, order, c);
            for (int i = -1; i <= 8; i++) {
                Check.due(call + "tokenAt(" + c + ", " + i + ")", x.tokenAt(c, i), m.tokenAt(c, i));
            }
            for (int d = -2; d <= 12; d++) {
                Check.due(call + "depends(" + c + ", " + d + ")", x.depends(c, d), m.depends(c, d));
            }
        }
    }

    private static void compareCell(String call, LatticeSheet x, SheetModel m, List<Integer> order, int c) {
        Check.due(call + "value(" + c + ")", x.value(c), m.value(c));
        Check.due(call + "delta(" + c + ")", x.delta(c), m.delta(c));
        Check.due(call + "leader(" + c + ")", x.leader(c), m.leader(c));
        boolean inside = c >= 0 && c < order.size();
        int due = inside ? order.get(c) : LatticeSheet.NONE;
        Check.due(call + "orderAt(" + c + ")", x.orderAt(c), due);
        Check.due(call + "length(" + c + ")", x.length(c), m.length(c));
    }

    /** Every asking call with arguments that may be any ints, in the state the run has come to. */
    private static void oddQuestion(String call, LatticeSheet x, SheetModel m, int a, int b) {
        compareCell(call, x, m, m.order(), a);
        Check.due(call + "tokenAt(" + a + ", " + b + ")", x.tokenAt(a, b), m.tokenAt(a, b));
        Check.due(call + "depends(" + a + ", " + b + ")", x.depends(a, b), m.depends(a, b));
    }
}
