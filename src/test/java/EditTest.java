/** Terms: what happens in an edit, made by commit or by setInput. */
public final class EditTest {
    public static void main(String[] args) {
        deltaFromOldValues();
        formulaReplaced();
        leastSolutionOfNewFormulas();
        deltaOfEveryCell();
        editedCell();
        equalFormula();
        otherFormulas();
        Check.end();
    }

    private static void deltaFromOldValues() {
        Check.sentence("1. The values shown are remembered as the old values.");
        LatticeSheet x = new LatticeSheet(2, 15);
        int old = 0;
        for (int v : new int[] {5, 5, 15, 0, 1, 15, 14, 0, 0}) {
            Check.input(x, 0, v);
            Check.deltas("from " + old + " to " + v, x, v - old, 0);
            old = v;
        }
        // The values just before the edit count, not those of an earlier one.
        Check.formula(x, 1, 100, 2, 400);
        Check.deltas("the other cell", x, 0, 2);
        Check.input(x, 0, 3);
        Check.deltas("both", x, 3, 3);
    }

    private static void formulaReplaced() {
        Check.sentence("2. The formula of c is replaced.");
        LatticeSheet x = new LatticeSheet(3, 9);
        int[][] formulas = {{101, 102, 5, 6, 400, 300, 200}, {7}, {101, 102, 400}, {102, 3, 503, 101, 300}, {0}};
        for (int[] formula : formulas) {
            Check.formula(x, 2, formula);
            Check.reads("replaced", x, 2, formula);
        }
        Check.formula(x, 2, formulas[0]);
        Check.input(x, 2, 8);
        Check.reads("replaced by a constant", x, 2, 8);
    }

    private static void leastSolutionOfNewFormulas() {
        Check.sentence("3. The shown values become the least solution for the new formulas.");
        LatticeSheet x = new LatticeSheet(3, 9);
        Check.formula(x, 0, 101, 1, 400);
        Check.values("one sum", x, 1, 0, 0);
        Check.formula(x, 1, 100);
        Check.values("a loop through the sum", x, 9, 9, 0);
        Check.formula(x, 2, 101, 4, 200);
        Check.values("a cell beside the loop", x, 9, 9, 4);
        Check.formula(x, 0, 101);
        Check.values("a loop without the sum", x, 0, 0, 0);
        Check.formula(x, 0, 101, 102, 300);
        Check.values("a greater loop", x, 0, 0, 0);
        Check.input(x, 2, 4);
        Check.values("a loop with support", x, 4, 4, 4);
    }

    private static void deltaOfEveryCell() {
        Check.sentence("4. The delta of each cell (of every cell, not only of c) becomes "
            + "its shown value minus its old value.");
        LatticeSheet x = new LatticeSheet(4, 9);
        Check.input(x, 0, 9);
        Check.deltas("one up", x, 9, 0, 0, 0);
        Check.formula(x, 1, 100, 2, 200);
        Check.deltas("another up", x, 0, 2, 0, 0);
        Check.formula(x, 2, 100, 101, 400);
        Check.deltas("a third up", x, 0, 0, 9, 0);
        Check.input(x, 0, 0);
        Check.deltas("all down", x, -9, -2, -9, 0);
        Check.input(x, 0, 1);
        Check.deltas("up again", x, 1, 1, 2, 0);
        Check.input(x, 3, 0);
        Check.deltas("an edit that moves nothing", x, 0, 0, 0, 0);
    }

    private static void editedCell() {
        Check.sentence("5. c becomes the edited cell.");
        LatticeSheet x = new LatticeSheet(12, 9);
        for (int c = 0; c < 12; c++) {
            Check.input(x, c, c % 3);
            Check.due("edited() after setInput", x.edited(), c);
            Check.formula(x, 11 - c, 100 + c);
            Check.due("edited() after commit", x.edited(), 11 - c);
        }
    }

    private static void equalFormula() {
        Check.sentence("This happens also if the new formula equals the old one; then no value moves, "
            + "so all deltas become 0, and c becomes the edited cell.");
        LatticeSheet x = Check.filled();
        Check.deltas("before", x, 6, 6, 6, 6);
        Check.due("edited() before", x.edited(), 0);
        Check.formula(x, 1, 102, 100, 300);
        sameAsFilled(x, 1);
        Check.input(x, 0, 5);
        Check.input(x, 0, 6);
        Check.deltas("moved and back", x, 1, 1, 1, 1);
        Check.formula(x, 3, 103, 1, 400, 102, 200);
        sameAsFilled(x, 3);
        Check.input(x, 0, 6);
        sameAsFilled(x, 0);
        Check.formula(x, 0, 6);
        sameAsFilled(x, 0);
        // Already the first edit may change nothing.
        LatticeSheet y = new LatticeSheet(4, 9);
        Check.input(y, 2, 0);
        Check.values("VALUE 0 again", y, 0, 0, 0, 0);
        Check.deltas("VALUE 0 again", y, 0, 0, 0, 0);
        Check.due("edited()", y.edited(), 2);
    }

    private static void sameAsFilled(LatticeSheet x, int edited) {
        Check.values("equal formula", x, 6, 6, 6, 6);
        Check.deltas("equal formula", x, 0, 0, 0, 0);
        Check.due("edited()", x.edited(), edited);
        Check.reads("equal formula", x, 0, 6);
        Check.reads("equal formula", x, 1, 102, 100, 300);
        Check.reads("equal formula", x, 2, 101);
        Check.reads("equal formula", x, 3, 103, 1, 400, 102, 200);
    }

    private static void otherFormulas() {
        Check.sentence("The formulas of cells other than c do not change in an edit.");
        LatticeSheet x = new LatticeSheet(12, 15);
        int[] longest = {1, 2, 3, 4, 400, 300, 200};
        for (int c = 0; c < 12; c++) {
            Check.formula(x, c, longest);
        }
        for (int c = 0; c < 12; c++) {
            Check.input(x, c, c);
            others(x, c, longest);
            Check.formula(x, c, 1, 100 + c, 501, 101, 505, 102, 509);
            others(x, c, longest);
            Check.formula(x, c, longest);
        }
    }

    private static void others(LatticeSheet x, int edited, int[] formula) {
        for (int c = 0; c < 12; c++) {
            if (c != edited) {
                Check.reads("other formula", x, c, formula);
            }
        }
    }
}
