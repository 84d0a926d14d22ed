/** Promise 4: committing the draft to a cell. */
public final class CommitTest {
    private static final int DRAFT = LatticeSheet.DRAFT;

    public static void main(String[] args) {
        badCell();
        malformed();
        emptyDraft();
        cellBeforeDepth();
        wholeFormulas();
        editTakesPlace();
        everyCell();
        draftEmptied();
        draftAfterRefusal();
        Check.end();
    }

    private static void refused(LatticeSheet x, int cell, int want) {
        Check.refused("commit(" + cell + ")", x, () -> x.commit(cell), want);
    }

    private static void badCell() {
        Check.sentence("1. cell is not in 0..N-1: BAD_CELL.");
        for (int n = 2; n <= 12; n++) {
            LatticeSheet x = new LatticeSheet(n, 9);
            Check.input(x, n - 1, 4);
            Check.draft(x, 5, 100, 300);
            refused(x, -1, LatticeSheet.BAD_CELL);
            refused(x, n, LatticeSheet.BAD_CELL);
            for (int cell : Check.outside(0, n - 1)) {
                refused(x, cell, LatticeSheet.BAD_CELL);
            }
            Check.due("commit of the last cell", x.commit(n - 1), LatticeSheet.OK);
            Check.formula(x, 0, 5);
        }
    }

    private static void malformed() {
        Check.sentence("2. The depth of the draft is not 1: MALFORMED.");
        LatticeSheet x = Check.filled();
        Check.draft(x, 5);
        for (int depth = 2; depth <= 8; depth++) {
            Check.draft(x, 5);
            for (int cell = 0; cell < 4; cell++) {
                refused(x, cell, LatticeSheet.MALFORMED);
            }
        }
        int[][] twoOrMore = {{1, 2, 3, 200}, {1, 2, 200, 3}, {1, 2, 3, 4, 501}, {1, 2, 3, 4, 400, 5},
            {1, 2, 200, 3, 200, 4, 200, 5}, {1, 2, 3, 4, 5, 400, 400, 400}};
        for (int[] tokens : twoOrMore) {
            x.dropDraft();
            Check.draft(x, tokens);
            refused(x, 0, LatticeSheet.MALFORMED);
        }
    }

    private static void emptyDraft() {
        Check.sentence("This is so also for the empty draft.");
        LatticeSheet x = new LatticeSheet(4, 9);
        refused(x, 0, LatticeSheet.MALFORMED);
        refused(x, 3, LatticeSheet.MALFORMED);
        Check.draft(x, 5);
        x.dropDraft();
        refused(x, 0, LatticeSheet.MALFORMED);
        Check.formula(x, 2, 5);
        refused(x, 2, LatticeSheet.MALFORMED);
        Check.input(x, 2, 6);
        refused(x, 2, LatticeSheet.MALFORMED);
        Check.due("value(2)", x.value(2), 6);
    }

    private static void cellBeforeDepth() {
        Check.sentence("The first that applies gives the answer: BAD_CELL before MALFORMED.");
        for (int[] tokens : new int[][] {{}, {1, 2}, {1, 2, 3, 4, 5, 6, 7, 8}}) {
            LatticeSheet x = Check.filled();
            Check.draft(x, tokens);
            for (int cell : Check.outside(0, 3)) {
                refused(x, cell, LatticeSheet.BAD_CELL);
            }
            refused(x, 3, LatticeSheet.MALFORMED);
        }
    }

    /** A draft of depth 1 has an odd number of tokens, so seven are the most. */
    private static void wholeFormulas() {
        Check.sentence("Otherwise an edit of cell takes place, with the tokens of the draft, "
            + "in their order, as the new formula; the answer is OK.");
        int[][] formulas = {{7}, {103}, {1, 2, 400}, {2, 1, 502}, {103, 2, 505, 101, 200},
            {1, 2, 3, 4, 400, 300, 200}, {1, 2, 400, 3, 300, 4, 200}};
        int[] results = {7, 6, 3, 1, 2, 1, 3};
        for (int f = 0; f < formulas.length; f++) {
            LatticeSheet x = Check.filled();
            Check.formula(x, 0, formulas[f]);
            Check.reads("committed", x, 0, formulas[f]);
            Check.reads("other formula", x, 1, 102, 100, 300);
            Check.reads("other formula", x, 2, 101);
            Check.reads("other formula", x, 3, 103, 1, 400, 102, 200);
            Check.due("edited()", x.edited(), 0);
        }
        for (int f = 0; f < formulas.length; f++) {
            LatticeSheet x = new LatticeSheet(4, 9);
            Check.input(x, 1, 2);
            Check.input(x, 3, 6);
            Check.formula(x, 0, formulas[f]);
            Check.due("result of formula " + f, x.value(0), results[f]);
        }
    }

    private static void editTakesPlace() {
        Check.sentence("Otherwise an edit of cell takes place, as told under Terms.");
        LatticeSheet x = Check.filled();
        Check.formula(x, 0, 103, 2, 502);
        Check.values("after commit", x, 0, 0, 0, 0);
        Check.deltas("after commit", x, -6, -6, -6, -6);
        Check.due("edited() after commit", x.edited(), 0);
        Check.depends("after commit", x, "1111", "1111", "1111", "1111");
    }

    private static void everyCell() {
        Check.sentence("commit(cell) makes the draft the formula of a cell.");
        LatticeSheet x = new LatticeSheet(12, 15);
        for (int c = 0; c < 12; c++) {
            Check.formula(x, c, c, 1, 2, 3, 400, 400, 400);
        }
        for (int c = 0; c < 12; c++) {
            Check.reads("seven tokens", x, c, c, 1, 2, 3, 400, 400, 400);
            Check.due("value(" + c + ")", x.value(c), Math.min(15, c + 6));
        }
    }

    private static void draftEmptied() {
        Check.sentence("Then the draft becomes empty.");
        LatticeSheet x = Check.filled();
        for (int[] tokens : new int[][] {{7}, {1, 2, 400}, {1, 2, 3, 4, 400, 300, 200}}) {
            Check.formula(x, 3, tokens);
            Check.reads("draft after commit", x, DRAFT);
            refused(x, 3, LatticeSheet.MALFORMED);
            // The depth of the new draft counts from 0 again.
            Check.due("push(MAX, 0)", x.push(3, 0), LatticeSheet.SHORT);
            Check.draft(x, 1);
            Check.due("push(MAX, 0)", x.push(3, 0), LatticeSheet.SHORT);
            Check.due("commit(2)", x.commit(2), LatticeSheet.OK);
        }
        Check.draft(x, 1, 2, 3, 4, 5, 6, 7, 8);
    }

    private static void draftAfterRefusal() {
        Check.sentence("After a refusal the draft is as it was.");
        LatticeSheet x = Check.filled();
        Check.draft(x, 4, 3);
        refused(x, 0, LatticeSheet.MALFORMED);
        refused(x, 4, LatticeSheet.BAD_CELL);
        Check.reads("draft after refusals", x, DRAFT, 4, 3);
        Check.draft(x, 400);
        refused(x, -1, LatticeSheet.BAD_CELL);
        Check.reads("draft after refusals", x, DRAFT, 4, 3, 400);
        Check.due("commit(0)", x.commit(0), LatticeSheet.OK);
        Check.reads("formula", x, 0, 4, 3, 400);
        Check.due("value(0)", x.value(0), 7);
    }
}
