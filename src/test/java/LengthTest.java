/** Promise 12: the length of a formula or of the draft. */
public final class LengthTest {
    private static final int DRAFT = LatticeSheet.DRAFT;

    public static void main(String[] args) {
        formulas();
        draft();
        outside();
        draftInNoOtherCall();
        changesNothing();
        Check.end();
    }

    private static void formulas() {
        Check.sentence("The number of tokens of the formula of cell, in 1..MAX_TOKENS, "
            + "if cell is in 0..N-1.");
        for (int n = 2; n <= 12; n++) {
            LatticeSheet x = new LatticeSheet(n, 9);
            for (int c = 0; c < n; c++) {
                Check.due("at the start: length(" + c + ")", x.length(c), 1);
                Check.formula(x, c, 1, 2, 3, 4, 400, 400, 400);
                Check.due("length(" + c + ")", x.length(c), 7);
                Check.formula(x, c, 1, 2, 3, 400, 400);
                Check.due("length(" + c + ")", x.length(c), 5);
                Check.formula(x, c, 1, 2, 400);
                Check.due("length(" + c + ")", x.length(c), 3);
                Check.formula(x, c, 100);
                Check.due("length(" + c + ")", x.length(c), 1);
                Check.formula(x, c, 1, 2, 400);
                Check.input(x, c, 2);
                Check.due("set to a constant: length(" + c + ")", x.length(c), 1);
                Check.formula(x, c, 1, 2, 3, 4, 400, 400, 400);
            }
            for (int c = 0; c < n; c++) {
                Check.due("at the end: length(" + c + ")", x.length(c), 7);
            }
        }
    }

    private static void draft() {
        Check.sentence("The number of tokens of the draft, in 0..MAX_TOKENS, if cell is DRAFT.");
        LatticeSheet x = Check.filled();
        Check.due("empty draft", x.length(DRAFT), 0);
        for (int i = 1; i <= LatticeSheet.MAX_TOKENS; i++) {
            Check.draft(x, i);
            Check.due("draft of " + i, x.length(DRAFT), i);
        }
        x.push(0, 0);
        Check.due("full draft", x.length(DRAFT), 8);
        x.dropDraft();
        Check.due("dropped draft", x.length(DRAFT), 0);
        Check.draft(x, 1, 2);
        x.push(0, 10);
        x.push(6, 0);
        x.commit(0);
        x.commit(-1);
        Check.due("draft after refusals", x.length(DRAFT), 2);
        Check.draft(x, 400);
        x.setInput(1, 1);
        Check.due("an operator counts as well", x.length(DRAFT), 3);
        x.commit(0);
        Check.due("committed draft", x.length(DRAFT), 0);
        Check.due("formula", x.length(0), 3);
    }

    private static void outside() {
        Check.sentence("NONE for every other cell.");
        for (int n = 2; n <= 12; n++) {
            LatticeSheet x = new LatticeSheet(n, 9);
            outside(x, n);
            Check.draft(x, 1, 2, 3);
            outside(x, n);
        }
    }

    private static void outside(LatticeSheet x, int n) {
        Check.due("length(-2)", x.length(-2), LatticeSheet.NONE);
        Check.due("length(NONE)", x.length(LatticeSheet.NONE), LatticeSheet.NONE);
        Check.due("length(" + n + ")", x.length(n), LatticeSheet.NONE);
        for (int cell : Check.outside(DRAFT, n - 1)) {
            Check.due("length(" + cell + ")", x.length(cell), LatticeSheet.NONE);
        }
    }

    private static void draftInNoOtherCall() {
        Check.sentence("DRAFT = -1: stands for the draft in place of a cell number "
            + "in length and tokenAt.");
        for (int n = 2; n <= 12; n++) {
            LatticeSheet x = new LatticeSheet(n, 9);
            Check.formula(x, 0, 100, 1, 400);
            Check.draft(x, 100);
            Check.due("length(DRAFT)", x.length(DRAFT), 1);
            Check.due("tokenAt(DRAFT, 0)", x.tokenAt(DRAFT, 0), 100);
            Check.due("value(DRAFT)", x.value(DRAFT), LatticeSheet.NONE);
            Check.due("delta(DRAFT)", x.delta(DRAFT), LatticeSheet.NONE);
            Check.due("leader(DRAFT)", x.leader(DRAFT), LatticeSheet.NONE);
            Check.due("orderAt(DRAFT)", x.orderAt(DRAFT), LatticeSheet.NONE);
            Check.due("depends(DRAFT, 0)", x.depends(DRAFT, 0), false);
            Check.due("depends(0, DRAFT)", x.depends(0, DRAFT), false);
            Check.due("depends(DRAFT, DRAFT)", x.depends(DRAFT, DRAFT), false);
            Check.refused("commit(DRAFT)", x, () -> x.commit(DRAFT), LatticeSheet.BAD_CELL);
            Check.refused("setInput(DRAFT, 1)", x, () -> x.setInput(DRAFT, 1), LatticeSheet.BAD_CELL);
            Check.refused("push(REF, DRAFT)", x, () -> x.push(1, DRAFT), LatticeSheet.BAD_ARG);
        }
    }

    private static void changesNothing() {
        Check.sentence("The call changes nothing.");
        for (int cell : Check.any()) {
            Check.changesNothing("length(" + cell + ")", x -> x.length(cell));
        }
    }
}
