import java.util.List;
import java.util.function.ToIntFunction;

/** Terms: 'Order of conditions and refusal'. */
public final class RefusalTest {
    private static final int[][] DRAFTS = {
        {}, {5}, {5, 103}, {5, 103, 200}, {1, 2, 3}, {1, 2, 3, 4, 5, 6, 7},
        {1, 2, 3, 4, 5, 6, 7, 8}, {1, 2, 200, 3, 200, 4, 200, 5}};

    public static void main(String[] args) {
        orderOfPush();
        orderOfCommit();
        orderOfSetInput();
        refusedBeforeAnyEdit();
        refusedAfterEdits();
        askingCalls();
        everyInt();
        Check.end();
    }

    private static void orderOfPush() {
        Check.sentence("Where a promise lists numbered conditions, they are looked at in the order "
            + "listed, and the first that applies gives the answer (promise 2).");
        for (int[] draft : DRAFTS) {
            for (int kind : Check.any()) {
                for (int arg : Check.any()) {
                    LatticeSheet x = new LatticeSheet(4, 9);
                    Check.draft(x, draft);
                    Check.due("push(" + kind + ", " + arg + ") on a draft of " + draft.length,
                        x.push(kind, arg), duePush(draft, kind, arg));
                }
            }
        }
    }

    private static int duePush(int[] draft, int kind, int arg) {
        boolean badValue = kind == LatticeSheet.VALUE && (arg < 0 || arg > 9);
        boolean badRef = kind == LatticeSheet.REF && (arg < 0 || arg > 3);
        boolean badGuard = kind == LatticeSheet.GUARD && (arg < 1 || arg > 9);
        if (kind < 0 || kind > 5) {
            return LatticeSheet.BAD_KIND;
        }
        if (draft.length == 8) {
            return LatticeSheet.FULL;
        }
        if (badValue || badRef || badGuard) {
            return LatticeSheet.BAD_ARG;
        }
        return kind >= LatticeSheet.MIN && depth(draft) < 2 ? LatticeSheet.SHORT : LatticeSheet.OK;
    }

    private static int depth(int[] draft) {
        int depth = 0;
        for (int token : draft) {
            depth += token < 200 ? 1 : -1;
        }
        return depth;
    }

    private static void orderOfCommit() {
        Check.sentence("Where a promise lists numbered conditions, they are looked at in the order "
            + "listed, and the first that applies gives the answer (promise 4).");
        for (int[] draft : DRAFTS) {
            for (int cell : Check.any()) {
                LatticeSheet x = new LatticeSheet(4, 9);
                Check.draft(x, draft);
                boolean inside = cell >= 0 && cell <= 3;
                int whole = depth(draft) == 1 ? LatticeSheet.OK : LatticeSheet.MALFORMED;
                Check.due("commit(" + cell + ") of a draft of " + draft.length,
                    x.commit(cell), inside ? whole : LatticeSheet.BAD_CELL);
            }
        }
    }

    private static void orderOfSetInput() {
        Check.sentence("Where a promise lists numbered conditions, they are looked at in the order "
            + "listed, and the first that applies gives the answer (promise 5).");
        for (int cell : Check.any()) {
            for (int v : Check.any()) {
                LatticeSheet x = new LatticeSheet(4, 9);
                boolean inside = cell >= 0 && cell <= 3;
                int fits = v >= 0 && v <= 9 ? LatticeSheet.OK : LatticeSheet.BAD_ARG;
                Check.due("setInput(" + cell + ", " + v + ")",
                    x.setInput(cell, v), inside ? fits : LatticeSheet.BAD_CELL);
            }
        }
    }

    private static LatticeSheet newSheet(int[] draft) {
        LatticeSheet x = new LatticeSheet(4, 9);
        Check.draft(x, draft);
        return x;
    }

    private static LatticeSheet filledSheet(int[] draft) {
        LatticeSheet x = Check.filled();
        Check.draft(x, draft);
        return x;
    }

    private static void refusedBeforeAnyEdit() {
        Check.sentence("A refused call (an answer other than OK) changes nothing at all: formulas, shown "
            + "values, deltas, the edited cell and the draft all stay (before any edit).");
        for (int[] draft : DRAFTS) {
            LatticeSheet x = newSheet(draft);
            refuseAll(x, draft);
            sameAfterwards(x, newSheet(draft));
        }
    }

    private static void refusedAfterEdits() {
        Check.sentence("A refused call (an answer other than OK) changes nothing at all: formulas, shown "
            + "values, deltas, the edited cell and the draft all stay (after edits).");
        for (int[] draft : DRAFTS) {
            LatticeSheet x = filledSheet(draft);
            refuseAll(x, draft);
            sameAfterwards(x, filledSheet(draft));
        }
    }

    /** Every refused call there is on this draft. */
    private static void refuseAll(LatticeSheet x, int[] draft) {
        for (int a : Check.any()) {
            for (int b : Check.any()) {
                int due = duePush(draft, a, b);
                if (due != LatticeSheet.OK) {
                    Check.refused("push(" + a + ", " + b + ")", x, () -> x.push(a, b), due);
                }
            }
        }
        for (int cell : Check.outside(0, 3)) {
            Check.refused("commit(" + cell + ")", x, () -> x.commit(cell), LatticeSheet.BAD_CELL);
            Check.refused("setInput(" + cell + ", 1)", x,
                () -> x.setInput(cell, 1), LatticeSheet.BAD_CELL);
        }
        for (int cell = 0; cell <= 3; cell++) {
            int inside = cell;
            if (depth(draft) != 1) {
                Check.refused("commit(" + cell + ")", x,
                    () -> x.commit(inside), LatticeSheet.MALFORMED);
            }
            for (int v : Check.outside(0, 9)) {
                Check.refused("setInput(" + cell + ", " + v + ")", x,
                    () -> x.setInput(inside, v), LatticeSheet.BAD_ARG);
            }
        }
    }

    /** What cannot be asked, such as the depth, would show in the calls that follow. */
    private static void sameAfterwards(LatticeSheet x, LatticeSheet y) {
        Check.same("refused calls", Check.all(y), Check.all(x));
        List<ToIntFunction<LatticeSheet>> calls = List.of(
            s -> s.push(LatticeSheet.SUM, 0),
            s -> s.commit(2),
            s -> s.setInput(1, 7),
            s -> s.push(LatticeSheet.REF, 3),
            s -> s.push(LatticeSheet.MAX, 0),
            s -> s.commit(0),
            s -> s.setInput(3, 2),
            s -> s.commit(1));
        for (int i = 0; i < calls.size(); i++) {
            String call = "call " + i + " after refused calls";
            int got = calls.get(i).applyAsInt(x);
            Check.due(call, got, calls.get(i).applyAsInt(y));
            Check.same(call, Check.all(y), Check.all(x));
        }
    }

    private static void askingCalls() {
        Check.sentence("Calls that only ask change nothing.");
        Check.changesNothing("every asking call", RefusalTest::askAll);
    }

    private static void askAll(LatticeSheet x) {
        x.edited();
        x.cellCount();
        x.topValue();
        for (int a : Check.any()) {
            x.value(a);
            x.delta(a);
            x.leader(a);
            x.orderAt(a);
            x.length(a);
            for (int b : Check.any()) {
                x.depends(a, b);
                x.tokenAt(a, b);
            }
        }
    }

    private static void everyInt() {
        Check.sentence("Every int is allowed as any argument of any call, the constructor included.");
        for (int a : Check.any()) {
            for (int b : Check.any()) {
                LatticeSheet x = new LatticeSheet(a, b);
                SheetModel m = new SheetModel(a, b);
                String call = "(" + a + ", " + b + ")";
                Check.due("push" + call, x.push(a, b), m.push(a, b));
                Check.due("push(VALUE, " + a + ")", x.push(0, a), m.push(0, a));
                Check.due("push(REF, " + b + ")", x.push(1, b), m.push(1, b));
                Check.due("push(GUARD, " + a + ")", x.push(5, a), m.push(5, a));
                Check.due("commit(" + a + ")", x.commit(a), m.commit(a));
                Check.due("setInput" + call, x.setInput(a, b), m.setInput(a, b));
                ask(call, x, m, a, b);
            }
        }
    }

    private static void ask(String call, LatticeSheet x, SheetModel m, int a, int b) {
        Check.due("value(" + a + ")", x.value(a), m.value(a));
        Check.due("delta(" + a + ")", x.delta(a), m.delta(a));
        Check.due("leader(" + a + ")", x.leader(a), m.leader(a));
        boolean inside = a >= 0 && a < m.cellCount();
        Check.due("orderAt(" + a + ")", x.orderAt(a), inside ? m.order().get(a) : LatticeSheet.NONE);
        Check.due("length(" + a + ")", x.length(a), m.length(a));
        Check.due("tokenAt" + call, x.tokenAt(a, b), m.tokenAt(a, b));
        Check.due("depends" + call, x.depends(a, b), m.depends(a, b));
        Check.due("edited()", x.edited(), m.edited());
        Check.due("cellCount()", x.cellCount(), m.cellCount());
        Check.due("topValue()", x.topValue(), m.topValue());
    }
}
