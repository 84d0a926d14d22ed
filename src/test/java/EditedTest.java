/** Promise 8: the edited cell. */
public final class EditedTest {
    private static final int NONE = LatticeSheet.NONE;

    public static void main(String[] args) {
        lastEdit();
        noneBeforeAnyEdit();
        unmovedByOtherCalls();
        changesNothing();
        Check.end();
    }

    private static void lastEdit() {
        Check.sentence("edited() answers the edited cell, that is, the cell of the last edit, "
            + "whether it was made by commit or by setInput.");
        for (int n = 2; n <= 12; n++) {
            for (int c = 0; c < n; c++) {
                LatticeSheet x = new LatticeSheet(n, 9);
                Check.input(x, c, 1);
                Check.due("first edit by setInput", x.edited(), c);
                LatticeSheet y = new LatticeSheet(n, 9);
                Check.formula(y, c, 100);
                Check.due("first edit by commit", y.edited(), c);
                int other = n - 1 - c;
                Check.input(y, other, 9);
                Check.due("setInput after commit", y.edited(), other);
                Check.formula(x, other, 100);
                Check.due("commit after setInput", x.edited(), other);
                // An edit that changes nothing is one too.
                Check.input(x, c, 1);
                Check.due("equal constant", x.edited(), c);
            }
        }
    }

    private static void noneBeforeAnyEdit() {
        Check.sentence("It answers NONE as long as there was no edit.");
        for (int n = 2; n <= 12; n++) {
            LatticeSheet x = new LatticeSheet(n, 9);
            Check.due("new sheet", x.edited(), NONE);
            x.setInput(n, 0);
            x.setInput(-1, 0);
            x.setInput(0, 10);
            x.setInput(0, -1);
            x.commit(0);
            Check.due("after refusals", x.edited(), NONE);
            Check.draft(x, 7);
            Check.due("after a push", x.edited(), NONE);
            x.commit(-1);
            x.commit(n);
            Check.due("after refused commits", x.edited(), NONE);
            Check.draft(x, 7);
            x.commit(1);
            Check.due("after a malformed draft", x.edited(), NONE);
            x.dropDraft();
            Check.due("after dropDraft()", x.edited(), NONE);
        }
    }

    private static void unmovedByOtherCalls() {
        Check.sentence("A refused call changes nothing at all: ... the edited cell ... stay.");
        LatticeSheet x = new LatticeSheet(4, 9);
        Check.input(x, 2, 0);
        Check.draft(x, 7);
        Check.due("after a push", x.edited(), 2);
        x.setInput(1, 10);
        x.setInput(1, -1);
        x.setInput(4, 1);
        x.commit(4);
        x.push(9, 0);
        Check.due("after refusals", x.edited(), 2);
        x.commit(3);
        Check.due("after commit", x.edited(), 3);
        x.commit(1);
        x.dropDraft();
        Check.due("after an empty draft", x.edited(), 3);
        Check.input(x, 0, 1);
        Check.due("cell 0", x.edited(), 0);
    }

    private static void changesNothing() {
        Check.sentence("The call changes nothing.");
        Check.changesNothing("edited()", x -> x.edited());
    }
}
