/** Promise 5: setting a cell to a constant. */
public final class InputTest {
    private static final int DRAFT = LatticeSheet.DRAFT;
    private static final int[][] DRAFTS = {
        {}, {5}, {5, 103}, {5, 103, 200}, {1, 2, 3, 4, 5, 6, 7, 8}, {1, 2, 200, 3, 200, 4, 200, 5}};

    public static void main(String[] args) {
        badCell();
        badValue();
        cellBeforeValue();
        everyValue();
        editTakesPlace();
        draftStays();
        Check.end();
    }

    private static void refused(LatticeSheet x, int cell, int v, int want) {
        Check.refused("setInput(" + cell + ", " + v + ")", x, () -> x.setInput(cell, v), want);
    }

    private static void badCell() {
        Check.sentence("1. cell is not in 0..N-1: BAD_CELL.");
        for (int n = 2; n <= 12; n++) {
            LatticeSheet x = new LatticeSheet(n, 9);
            Check.formula(x, 0, 100, 1, 400);
            Check.draft(x, 5);
            refused(x, -1, 3, LatticeSheet.BAD_CELL);
            refused(x, n, 3, LatticeSheet.BAD_CELL);
            for (int cell : Check.outside(0, n - 1)) {
                refused(x, cell, 3, LatticeSheet.BAD_CELL);
            }
            Check.input(x, n - 1, 3);
            Check.input(x, 0, 4);
            Check.due("value of the last cell", x.value(n - 1), 3);
            Check.due("value of the first cell", x.value(0), 4);
        }
    }

    private static void badValue() {
        Check.sentence("2. v is not in 0..T: BAD_ARG.");
        for (int top = 1; top <= 15; top++) {
            LatticeSheet x = new LatticeSheet(4, top);
            Check.formula(x, 0, 100, 1, 400);
            Check.draft(x, 1);
            refused(x, 3, -1, LatticeSheet.BAD_ARG);
            refused(x, 3, top + 1, LatticeSheet.BAD_ARG);
            for (int v : Check.outside(0, top)) {
                refused(x, 0, v, LatticeSheet.BAD_ARG);
            }
            for (int v = 0; v <= top; v++) {
                Check.input(x, 3, v);
            }
        }
    }

    private static void cellBeforeValue() {
        Check.sentence("The first that applies gives the answer: BAD_CELL before BAD_ARG.");
        LatticeSheet x = Check.filled();
        for (int cell : Check.outside(0, 3)) {
            for (int v : new int[] {Check.LOW, -1, 10, Check.HIGH}) {
                refused(x, cell, v, LatticeSheet.BAD_CELL);
            }
        }
        refused(x, 0, 10, LatticeSheet.BAD_ARG);
        refused(x, 3, -1, LatticeSheet.BAD_ARG);
    }

    private static void everyValue() {
        Check.sentence("Otherwise an edit of cell takes place, with the single token VALUE v "
            + "as the new formula; the answer is OK.");
        for (int top = 1; top <= 15; top++) {
            LatticeSheet x = new LatticeSheet(12, top);
            for (int c = 0; c < 12; c++) {
                Check.formula(x, c, 100, 101, 102, 103, 400, 400, 400);
                for (int v = 0; v <= top; v++) {
                    Check.input(x, c, v);
                    Check.reads("constant", x, c, v);
                    Check.due("value(" + c + ")", x.value(c), v);
                }
            }
        }
    }

    private static void editTakesPlace() {
        Check.sentence("Otherwise an edit of cell takes place, as told under Terms.");
        for (int v = 0; v <= 9; v++) {
            LatticeSheet x = Check.filled();
            Check.input(x, 1, v);
            Check.values("set to " + v, x, 6, v, v, v);
            Check.deltas("set to " + v, x, 0, v - 6, v - 6, v - 6);
            Check.due("edited()", x.edited(), 1);
            Check.reads("other formula", x, 0, 6);
            Check.reads("other formula", x, 2, 101);
            Check.reads("other formula", x, 3, 103, 1, 400, 102, 200);
            Check.depends("set to " + v, x, "0000", "0000", "0100", "0111");
        }
    }

    private static void draftStays() {
        Check.sentence("The draft stays as it is, whatever it holds.");
        for (int[] draft : DRAFTS) {
            LatticeSheet x = Check.filled();
            Check.draft(x, draft);
            Check.input(x, 1, 4);
            Check.reads("draft after setInput", x, DRAFT, draft);
            Check.input(x, 3, 9);
            Check.reads("draft after setInput", x, DRAFT, draft);
            // Its depth stays as well.
            boolean two = draft.length == 2;
            boolean full = draft.length == 8;
            int want = full ? LatticeSheet.FULL : two ? LatticeSheet.OK : LatticeSheet.SHORT;
            Check.due("push(MIN, 0) after setInput", x.push(2, 0), want);
            boolean whole = two || draft.length == 1 || draft.length == 3;
            Check.due("commit(0) after setInput", x.commit(0),
                whole ? LatticeSheet.OK : LatticeSheet.MALFORMED);
        }
    }
}
