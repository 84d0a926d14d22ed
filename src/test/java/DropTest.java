/** Promise 3: dropping the draft. */
public final class DropTest {
    private static final int DRAFT = LatticeSheet.DRAFT;
    private static final int[][] DRAFTS = {
        {}, {5}, {5, 103}, {5, 103, 200}, {1, 2, 3, 4, 5, 6, 7, 8}, {1, 2, 200, 3, 200, 4, 200, 5}};

    public static void main(String[] args) {
        emptyAfterwards();
        emptyAlready();
        nothingElse();
        noEdit();
        Check.end();
    }

    private static void emptyAfterwards() {
        Check.sentence("dropDraft() makes the draft empty.");
        for (int[] draft : DRAFTS) {
            LatticeSheet x = Check.filled();
            Check.draft(x, draft);
            x.dropDraft();
            Check.reads("dropped", x, DRAFT);
            // No depth may be left behind either.
            Check.due("commit(0)", x.commit(0), LatticeSheet.MALFORMED);
            Check.due("push(MIN, 0)", x.push(2, 0), LatticeSheet.SHORT);
            Check.draft(x, 4);
            Check.due("push(MIN, 0)", x.push(2, 0), LatticeSheet.SHORT);
            Check.draft(x, 4, 3, 2, 1, 0, 9, 8);
            Check.due("push(VALUE, 0)", x.push(0, 0), LatticeSheet.FULL);
            Check.reads("drafted anew", x, DRAFT, 4, 4, 3, 2, 1, 0, 9, 8);
        }
    }

    private static void emptyAlready() {
        Check.sentence("dropDraft() makes the draft empty, also if it was empty already.");
        LatticeSheet x = new LatticeSheet(3, 7);
        dropTwice(x);
        Check.formula(x, 1, 101, 1, 400);
        dropTwice(x);
        Check.draft(x, 3);
        x.dropDraft();
        dropTwice(x);
        Check.formula(x, 0, 6);
        Check.due("value(0)", x.value(0), 6);
    }

    private static void dropTwice(LatticeSheet x) {
        String before = Check.all(x);
        for (int i = 0; i < 2; i++) {
            x.dropDraft();
            Check.reads("dropped when empty", x, DRAFT);
            Check.same("dropDraft() of the empty draft", before, Check.all(x));
        }
    }

    private static void nothingElse() {
        Check.sentence("Nothing else changes.");
        for (int[] draft : DRAFTS) {
            LatticeSheet x = Check.filled();
            Check.draft(x, draft);
            String before = Check.sheet(x);
            x.dropDraft();
            Check.same("dropDraft()", before, Check.sheet(x));
        }
    }

    private static void noEdit() {
        Check.sentence("It is not an edit.");
        LatticeSheet x = new LatticeSheet(3, 7);
        Check.draft(x, 5);
        x.dropDraft();
        Check.due("edited() after dropDraft() alone", x.edited(), LatticeSheet.NONE);
        Check.formula(x, 1, 101, 1, 400);
        Check.draft(x, 5);
        x.dropDraft();
        Check.due("edited() after dropDraft()", x.edited(), 1);
        Check.deltas("after dropDraft()", x, 0, 7, 0);
        Check.values("after dropDraft()", x, 0, 7, 0);
    }
}
