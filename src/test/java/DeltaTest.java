/** Promise 7: the delta of a cell. */
public final class DeltaTest {
    public static void main(String[] args) {
        everyDelta();
        outside();
        afterMinusBefore();
        zeroBeforeAnyEdit();
        onlyAnEdit();
        changesNothing();
        Check.end();
    }

    private static void everyDelta() {
        Check.sentence("delta(cell) answers the delta of cell, in -T..T, if cell is in 0..N-1.");
        for (int top = 1; top <= 15; top++) {
            for (int n = 2; n <= 12; n++) {
                LatticeSheet x = new LatticeSheet(n, top);
                int last = n - 1;
                Check.formula(x, 0, 100 + last);
                Check.input(x, last, top);
                Check.due("greatest delta of the last cell", x.delta(last), top);
                Check.due("greatest delta of the first cell", x.delta(0), top);
                Check.input(x, last, 0);
                Check.due("least delta of the last cell", x.delta(last), -top);
                Check.due("least delta of the first cell", x.delta(0), -top);
            }
        }
        LatticeSheet x = new LatticeSheet(2, 15);
        for (int from = 0; from <= 15; from++) {
            for (int to = 0; to <= 15; to++) {
                Check.input(x, 1, from);
                Check.input(x, 1, to);
                Check.due("from " + from + " to " + to, x.delta(1), to - from);
            }
        }
    }

    private static void outside() {
        Check.sentence("delta(cell) answers ... otherwise NONE.");
        for (int n = 2; n <= 12; n++) {
            LatticeSheet x = new LatticeSheet(n, 15);
            outside(x, n);
            Check.input(x, 0, 15);
            Check.input(x, n - 1, 15);
            Check.draft(x, 5);
            outside(x, n);
        }
    }

    private static void outside(LatticeSheet x, int n) {
        Check.due("delta(-1)", x.delta(-1), LatticeSheet.NONE);
        Check.due("delta(" + n + ")", x.delta(n), LatticeSheet.NONE);
        for (int cell : Check.outside(0, n - 1)) {
            Check.due("delta(" + cell + ")", x.delta(cell), LatticeSheet.NONE);
        }
    }

    private static void afterMinusBefore() {
        Check.sentence("The delta tells how far the last edit moved the shown value of cell: the shown "
            + "value after that edit minus the shown value just before it.");
        LatticeSheet x = new LatticeSheet(3, 9);
        Check.formula(x, 1, 100, 3, 400);
        Check.deltas("sum", x, 0, 3, 0);
        Check.formula(x, 2, 101, 9, 505);
        Check.deltas("guard missed", x, 0, 0, 0);
        Check.input(x, 0, 2);
        Check.deltas("guard met", x, 2, 2, 9);
        Check.input(x, 0, 9);
        Check.deltas("sum held at the top", x, 7, 4, 0);
        Check.input(x, 0, 1);
        Check.deltas("guard missed again", x, -8, -5, -9);
        // A loop that loses its support falls all the way.
        Check.formula(x, 0, 101);
        Check.deltas("loop through the sum", x, 8, 5, 9);
        Check.formula(x, 1, 100);
        Check.deltas("loop without support", x, -9, -9, -9);
    }

    private static void zeroBeforeAnyEdit() {
        Check.sentence("It is 0 as long as there was no edit.");
        LatticeSheet x = new LatticeSheet(3, 9);
        Check.deltas("new", x, 0, 0, 0);
        Check.draft(x, 5, 6);
        x.commit(0);
        x.commit(3);
        x.setInput(3, 1);
        x.setInput(0, 10);
        x.push(6, 0);
        x.dropDraft();
        Check.draft(x, 5);
        Check.deltas("without an edit", x, 0, 0, 0);
        x.commit(1);
        Check.deltas("first edit", x, 0, 5, 0);
    }

    private static void onlyAnEdit() {
        Check.sentence("Only an edit changes deltas; refused calls, push and dropDraft "
            + "leave them as they are.");
        LatticeSheet x = Check.filled();
        Check.input(x, 0, 8);
        Runnable[] calls = {
            () -> x.push(0, 9),
            () -> x.push(0, 10),
            () -> x.push(2, 0),
            () -> x.push(6, 0),
            () -> x.push(1, 3),
            () -> x.commit(0),
            () -> x.commit(4),
            () -> x.commit(-1),
            () -> x.setInput(-1, 0),
            () -> x.setInput(4, 0),
            () -> x.setInput(0, -1),
            () -> x.setInput(0, 10),
            () -> x.dropDraft(),
            () -> x.dropDraft(),
        };
        for (int i = 0; i < calls.length; i++) {
            calls[i].run();
            Check.deltas("after call " + i, x, 2, 2, 2, 2);
        }
        Check.input(x, 3, 8);
        Check.deltas("after an edit that moves nothing", x, 0, 0, 0, 0);
    }

    private static void changesNothing() {
        Check.sentence("The call changes nothing.");
        for (int cell : Check.any()) {
            Check.changesNothing("delta(" + cell + ")", x -> x.delta(cell));
        }
    }
}
