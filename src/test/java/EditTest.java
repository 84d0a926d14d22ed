/** Promises 4, 5, 7 and 8: commit, setInput, deltas and the edited cell. */
public final class EditTest {
    private static final int LOW = Integer.MIN_VALUE;
    private static final int HIGH = Integer.MAX_VALUE;
    private static final int DRAFT = LatticeSheet.DRAFT;
    private static final int NONE = LatticeSheet.NONE;
    private static final int[] NO_CELLS = {LOW, -100, -99, -2, -1, 4, 5, 12, 13, HIGH};

    public static void main(String[] args) {
        commitRefused();
        commitAccepted();
        longestFormula();
        inputRefused();
        inputAccepted();
        deltasOfAllCells();
        sameFormulaAgain();
        deltaOutside();
        editedCell();
        Check.end();
    }

    /** A sheet with values, deltas, a cycle and an edited cell that a refused call could spoil. */
    private static LatticeSheet filled() {
        LatticeSheet x = new LatticeSheet(4, 9);
        Check.formula(x, 1, 102, 100, 300);
        Check.formula(x, 2, 101);
        Check.formula(x, 3, 103, 1, 400, 102, 200);
        x.setInput(0, 6);
        return x;
    }

    private static void refusedCommit(LatticeSheet x, int cell, int want) {
        String before = Check.all(x);
        Check.due("commit(" + cell + ")", x.commit(cell), want);
        Check.same("refused commit(" + cell + ")", before, x);
    }

    private static void refusedInput(LatticeSheet x, int cell, int v, int want) {
        String before = Check.all(x);
        Check.due("setInput(" + cell + ", " + v + ")", x.setInput(cell, v), want);
        Check.same("refused setInput(" + cell + ", " + v + ")", before, x);
    }

    private static void commitRefused() {
        LatticeSheet x = filled();
        for (int cell : NO_CELLS) {
            refusedCommit(x, cell, LatticeSheet.BAD_CELL);
        }
        refusedCommit(x, 0, LatticeSheet.MALFORMED);
        Check.draft(x, 5);
        for (int cell : NO_CELLS) {
            refusedCommit(x, cell, LatticeSheet.BAD_CELL);
        }
        for (int depth = 2; depth <= 8; depth++) {
            Check.draft(x, 5);
            refusedCommit(x, 3, LatticeSheet.MALFORMED);
            refusedCommit(x, 4, LatticeSheet.BAD_CELL);
        }
        x.dropDraft();
        // A refused draft can be gone on with.
        Check.draft(x, 4, 3);
        refusedCommit(x, 0, LatticeSheet.MALFORMED);
        Check.draft(x, 400);
        Check.due("commit(0)", x.commit(0), LatticeSheet.OK);
        Check.reads("commit after a refusal", x, 0, 4, 3, 400);
        Check.due("value(0)", x.value(0), 7);
    }

    private static void commitAccepted() {
        LatticeSheet x = filled();
        Check.draft(x, 103, 2, 502);
        Check.due("commit(0)", x.commit(0), LatticeSheet.OK);
        Check.reads("committed", x, 0, 103, 2, 502);
        Check.reads("draft after commit", x, DRAFT);
        refusedCommit(x, 0, LatticeSheet.MALFORMED);
        Check.reads("other formula", x, 1, 102, 100, 300);
        Check.reads("other formula", x, 2, 101);
        Check.reads("other formula", x, 3, 103, 1, 400, 102, 200);
        Check.values("after commit", x, 0, 0, 0, 0);
        Check.deltas("after commit", x, -6, -6, -6, -6);
    }

    private static void longestFormula() {
        LatticeSheet x = new LatticeSheet(12, 15);
        for (int c = 0; c < 12; c++) {
            Check.draft(x, 1, 2, 3, 4, 400, 400, 400);
            Check.due("commit(" + c + ")", x.commit(c), LatticeSheet.OK);
        }
        // Eight tokens have an even depth, so the longest draft is never a formula.
        Check.draft(x, 1, 2, 3, 4, 5, 400, 400, 400);
        refusedCommit(x, 11, LatticeSheet.MALFORMED);
        for (int c = 0; c < 12; c++) {
            Check.reads("seven tokens", x, c, 1, 2, 3, 4, 400, 400, 400);
            Check.due("value(" + c + ")", x.value(c), 10);
        }
    }

    private static void inputRefused() {
        LatticeSheet x = filled();
        Check.draft(x, 103, 7);
        for (int cell : NO_CELLS) {
            refusedInput(x, cell, 0, LatticeSheet.BAD_CELL);
            refusedInput(x, cell, 10, LatticeSheet.BAD_CELL);
            refusedInput(x, cell, -1, LatticeSheet.BAD_CELL);
        }
        for (int v : new int[] {LOW, -100, -99, -1, 10, 11, 15, 16, 100, HIGH}) {
            refusedInput(x, 0, v, LatticeSheet.BAD_ARG);
            refusedInput(x, 3, v, LatticeSheet.BAD_ARG);
        }
    }

    private static void inputAccepted() {
        int[][] drafts = {{}, {5}, {5, 103}, {5, 103, 200}, {1, 2, 3, 4, 5, 6, 7, 8}};
        for (int[] draft : drafts) {
            for (int v = 0; v <= 9; v++) {
                LatticeSheet x = filled();
                Check.draft(x, draft);
                Check.due("setInput(1, " + v + ")", x.setInput(1, v), LatticeSheet.OK);
                Check.reads("set to " + v, x, 1, v);
                Check.values("set to " + v, x, 6, v, v, v);
                Check.deltas("set to " + v, x, 0, v - 6, v - 6, v - 6);
                Check.due("edited()", x.edited(), 1);
                Check.reads("draft after setInput", x, DRAFT, draft);
                Check.reads("other formula", x, 0, 6);
                Check.reads("other formula", x, 2, 101);
                Check.reads("other formula", x, 3, 103, 1, 400, 102, 200);
                boolean whole = draft.length == 1 || draft.length == 3;
                int want = whole ? LatticeSheet.OK : LatticeSheet.MALFORMED;
                Check.due("commit(0) after setInput", x.commit(0), want);
            }
        }
    }

    private static void deltasOfAllCells() {
        LatticeSheet x = new LatticeSheet(4, 9);
        Check.deltas("at the start", x, 0, 0, 0, 0);
        x.setInput(0, 9);
        Check.deltas("one up", x, 9, 0, 0, 0);
        Check.formula(x, 1, 100, 2, 200);
        Check.deltas("another up", x, 0, 2, 0, 0);
        Check.formula(x, 2, 100, 101, 400);
        Check.deltas("a third up", x, 0, 0, 9, 0);
        x.setInput(0, 0);
        Check.deltas("all down", x, -9, -2, -9, 0);
        x.setInput(0, 1);
        Check.deltas("up again", x, 1, 1, 2, 0);
        Check.draft(x, 1, 2);
        x.commit(0);
        x.commit(9);
        x.setInput(9, 0);
        x.setInput(0, 10);
        x.push(9, 9);
        x.dropDraft();
        Check.deltas("after calls that are no edits", x, 1, 1, 2, 0);
        x.setInput(3, 0);
        Check.deltas("after an edit that moves nothing", x, 0, 0, 0, 0);
    }

    private static void sameFormulaAgain() {
        LatticeSheet x = filled();
        Check.deltas("before", x, 6, 6, 6, 6);
        x.setInput(0, 6);
        Check.deltas("same constant", x, 0, 0, 0, 0);
        Check.due("edited()", x.edited(), 0);
        x.setInput(0, 4);
        Check.formula(x, 1, 102, 100, 300);
        Check.deltas("same formula", x, 0, 0, 0, 0);
        Check.due("edited()", x.edited(), 1);
        Check.values("same formula", x, 4, 4, 4, 4);
    }

    private static void deltaOutside() {
        LatticeSheet x = filled();
        for (int cell : NO_CELLS) {
            Check.due("delta(" + cell + ")", x.delta(cell), NONE);
        }
        LatticeSheet widest = new LatticeSheet(12, 15);
        widest.setInput(11, 15);
        Check.due("greatest delta", widest.delta(11), 15);
        widest.setInput(11, 0);
        Check.due("least delta", widest.delta(11), -15);
    }

    private static void editedCell() {
        LatticeSheet x = new LatticeSheet(4, 9);
        Check.due("edited() at the start", x.edited(), NONE);
        x.setInput(4, 0);
        x.setInput(0, 10);
        x.commit(0);
        Check.draft(x, 7);
        x.commit(-1);
        x.dropDraft();
        Check.due("edited() before any edit", x.edited(), NONE);
        x.setInput(2, 0);
        Check.due("edited() after setInput", x.edited(), 2);
        Check.draft(x, 7);
        Check.due("edited() after push", x.edited(), 2);
        x.commit(3);
        Check.due("edited() after commit", x.edited(), 3);
        x.commit(1);
        x.setInput(1, -1);
        x.dropDraft();
        Check.due("edited() after refusals", x.edited(), 3);
        x.setInput(0, 1);
        Check.due("edited() of cell 0", x.edited(), 0);
    }
}
