/** Promise 13: reading back a token. */
public final class TokenTest {
    private static final int DRAFT = LatticeSheet.DRAFT;
    private static final int NONE = LatticeSheet.NONE;

    public static void main(String[] args) {
        formulas();
        draft();
        kindAndArgument();
        badCell();
        badPlace();
        emptyDraft();
        changesNothing();
        Check.end();
    }

    private static void formulas() {
        Check.sentence("tokenAt(cell, i) answers the token at place i (the first is 0) "
            + "of the formula of cell if cell is in 0..N-1.");
        for (int n = 2; n <= 12; n++) {
            LatticeSheet x = new LatticeSheet(n, 15);
            for (int c = 0; c < n; c++) {
                Check.reads("at the start", x, c, 0);
            }
            for (int c = 0; c < n; c++) {
                Check.formula(x, c, c, 100 + c, 501 + c, 1, 300, 100, 400);
            }
            for (int c = 0; c < n; c++) {
                Check.reads("seven tokens", x, c, c, 100 + c, 501 + c, 1, 300, 100, 400);
            }
        }
    }

    private static void draft() {
        Check.sentence("... of the draft if cell is DRAFT.");
        LatticeSheet x = Check.filled();
        Check.draft(x, 101, 3);
        Check.reads("draft", x, DRAFT, 101, 3);
        x.push(0, 10);
        x.commit(0);
        x.setInput(1, 5);
        Check.reads("draft after refusals and an input", x, DRAFT, 101, 3);
        Check.draft(x, 509, 1, 2, 4, 5, 6);
        Check.reads("full draft", x, DRAFT, 101, 3, 509, 1, 2, 4, 5, 6);
        x.push(0, 7);
        Check.reads("full draft after a push", x, DRAFT, 101, 3, 509, 1, 2, 4, 5, 6);
    }

    private static void kindAndArgument() {
        Check.sentence("The token is given as 100 * kind + argument, "
            + "with argument 0 for MIN, MAX and SUM.");
        LatticeSheet x = new LatticeSheet(12, 15);
        for (int k = 0; k <= 15; k++) {
            Check.draft(x, k);
            Check.due("VALUE " + k, x.tokenAt(DRAFT, 0), k);
            x.dropDraft();
        }
        for (int c = 0; c < 12; c++) {
            x.push(LatticeSheet.REF, c);
            Check.due("REF " + c, x.tokenAt(DRAFT, 0), 100 + c);
            x.dropDraft();
        }
        for (int k = 1; k <= 15; k++) {
            Check.draft(x, 1, 2);
            x.push(LatticeSheet.GUARD, k);
            Check.due("GUARD " + k, x.tokenAt(DRAFT, 2), 500 + k);
            x.dropDraft();
        }
        for (int kind = LatticeSheet.MIN; kind <= LatticeSheet.SUM; kind++) {
            for (int arg : Check.any()) {
                Check.draft(x, 1, 2);
                x.push(kind, arg);
                Check.due("kind " + kind + " of the draft", x.tokenAt(DRAFT, 2), 100 * kind);
                x.commit(7);
                Check.due("kind " + kind + " of the formula", x.tokenAt(7, 2), 100 * kind);
            }
        }
    }

    private static void badCell() {
        Check.sentence("It answers NONE if cell is neither in 0..N-1 nor DRAFT.");
        for (int n = 2; n <= 12; n++) {
            LatticeSheet x = new LatticeSheet(n, 9);
            Check.formula(x, n - 1, 1, 2, 3, 4, 400, 400, 400);
            Check.draft(x, 1, 2, 3, 4, 5, 6, 7, 8);
            for (int cell : Check.outside(DRAFT, n - 1)) {
                for (int i = -1; i <= 8; i++) {
                    Check.due("tokenAt(" + cell + ", " + i + ")", x.tokenAt(cell, i), NONE);
                }
            }
        }
    }

    private static void badPlace() {
        Check.sentence("It answers NONE if i is not in 0..length(cell)-1.");
        LatticeSheet x = new LatticeSheet(4, 9);
        int[][] formulas = {{1, 2, 3, 4, 400, 400, 400}, {5}, {1, 2, 3, 400, 400}, {1, 2, 400}};
        for (int c = 0; c < 4; c++) {
            Check.formula(x, c, 9, 9, 9, 9, 200, 200, 200);
            Check.formula(x, c, formulas[c]);
        }
        for (int c = 0; c < 4; c++) {
            places(x, c, formulas[c].length);
        }
        // What a longer formula left behind the shorter one must not be read.
        for (int c = 0; c < 4; c++) {
            Check.input(x, c, 7);
            places(x, c, 1);
        }
        for (int size = 1; size <= 8; size++) {
            Check.draft(x, size);
            places(x, DRAFT, size);
        }
        x.dropDraft();
        Check.draft(x, 1, 2);
        places(x, DRAFT, 2);
    }

    private static void places(LatticeSheet x, int cell, int length) {
        Check.due("tokenAt(" + cell + ", -1)", x.tokenAt(cell, -1), NONE);
        Check.due("tokenAt(" + cell + ", length)", x.tokenAt(cell, length), NONE);
        Check.due("tokenAt(" + cell + ", length - 1) is one",
            x.tokenAt(cell, length - 1) != NONE, true);
        for (int i : Check.outside(0, length - 1)) {
            Check.due("tokenAt(" + cell + ", " + i + ")", x.tokenAt(cell, i), NONE);
        }
    }

    private static void emptyDraft() {
        Check.sentence("So for the empty draft it answers NONE for every i.");
        LatticeSheet x = new LatticeSheet(4, 9);
        noToken("new", x);
        Check.draft(x, 1, 2, 3, 4, 5, 6, 7, 8);
        x.dropDraft();
        noToken("dropped", x);
        Check.formula(x, 2, 1, 2, 3, 4, 400, 400, 400);
        noToken("committed", x);
    }

    private static void noToken(String when, LatticeSheet x) {
        for (int i : Check.any()) {
            Check.due(when + ": tokenAt(DRAFT, " + i + ")", x.tokenAt(DRAFT, i), NONE);
        }
    }

    private static void changesNothing() {
        Check.sentence("The call changes nothing.");
        for (int no : Check.any()) {
            Check.changesNothing("tokenAt(" + no + ", 0)", x -> x.tokenAt(no, 0));
            Check.changesNothing("tokenAt(1, " + no + ")", x -> x.tokenAt(1, no));
            Check.changesNothing("tokenAt(DRAFT, " + no + ")", x -> x.tokenAt(DRAFT, no));
        }
    }
}
