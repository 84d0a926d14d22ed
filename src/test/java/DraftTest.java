/** Promises 2, 3, 12 and 13: the draft, its length, and reading back tokens. */
public final class DraftTest {
    private static final int LOW = Integer.MIN_VALUE;
    private static final int HIGH = Integer.MAX_VALUE;
    private static final int DRAFT = LatticeSheet.DRAFT;
    private static final int NONE = LatticeSheet.NONE;

    public static void main(String[] args) {
        badKinds();
        arguments();
        shortDrafts();
        fullDraft();
        orderOfConditions();
        keptArguments();
        depthAlongTheWay();
        pushIsNoEdit();
        dropping();
        readingBack();
        Check.end();
    }

    private static void push(LatticeSheet x, int kind, int arg, int want) {
        String before = Check.all(x);
        Check.due("push(" + kind + ", " + arg + ")", x.push(kind, arg), want);
        if (want != LatticeSheet.OK) {
            Check.same("refused push(" + kind + ", " + arg + ")", before, x);
        }
    }

    private static void badKinds() {
        LatticeSheet x = new LatticeSheet(3, 7);
        for (int kind : new int[] {LOW, -100, -99, -1, 6, 7, 100, HIGH}) {
            push(x, kind, 0, LatticeSheet.BAD_KIND);
            push(x, kind, HIGH, LatticeSheet.BAD_KIND);
        }
    }

    /** The least and greatest argument of each kind, and those just outside. */
    private static void arguments() {
        int[] outside = {LOW, -100, -99, -1};
        for (int n = 2; n <= 12; n++) {
            for (int t = 1; t <= 15; t++) {
                LatticeSheet x = new LatticeSheet(n, t);
                push(x, 0, 0, LatticeSheet.OK);
                push(x, 0, t, LatticeSheet.OK);
                push(x, 0, t + 1, LatticeSheet.BAD_ARG);
                push(x, 1, 0, LatticeSheet.OK);
                push(x, 1, n - 1, LatticeSheet.OK);
                push(x, 1, n, LatticeSheet.BAD_ARG);
                push(x, 5, 0, LatticeSheet.BAD_ARG);
                push(x, 5, t + 1, LatticeSheet.BAD_ARG);
                push(x, 5, 1, LatticeSheet.OK);
                push(x, 5, t, LatticeSheet.OK);
                for (int arg : outside) {
                    push(x, 0, arg, LatticeSheet.BAD_ARG);
                    push(x, 1, arg, LatticeSheet.BAD_ARG);
                    push(x, 5, arg, LatticeSheet.BAD_ARG);
                }
                push(x, 0, HIGH, LatticeSheet.BAD_ARG);
                push(x, 1, HIGH, LatticeSheet.BAD_ARG);
                push(x, 5, HIGH, LatticeSheet.BAD_ARG);
                Check.reads("draft at the edges", x, DRAFT, 0, t, 100, 100 + n - 1, 501, 500 + t);
            }
        }
    }

    private static void shortDrafts() {
        for (int kind = LatticeSheet.MIN; kind <= LatticeSheet.GUARD; kind++) {
            LatticeSheet x = new LatticeSheet(3, 7);
            push(x, kind, 1, LatticeSheet.SHORT);
            push(x, 1, 2, LatticeSheet.OK);
            push(x, kind, 1, LatticeSheet.SHORT);
            push(x, 0, 2, LatticeSheet.OK);
            push(x, kind, 1, LatticeSheet.OK);
            push(x, kind, 1, LatticeSheet.SHORT);
            Check.due("length of the draft", x.length(DRAFT), 3);
        }
    }

    private static void fullDraft() {
        LatticeSheet x = new LatticeSheet(3, 7);
        for (int i = 0; i < LatticeSheet.MAX_TOKENS; i++) {
            Check.due("length of the draft", x.length(DRAFT), i);
            push(x, 0, i < 7 ? i : 0, LatticeSheet.OK);
        }
        for (int kind = 0; kind <= 5; kind++) {
            push(x, kind, 1, LatticeSheet.FULL);
        }
        Check.reads("full draft", x, DRAFT, 0, 1, 2, 3, 4, 5, 6, 0);
    }

    private static void orderOfConditions() {
        LatticeSheet x = new LatticeSheet(3, 7);
        push(x, 5, 0, LatticeSheet.BAD_ARG);
        push(x, 5, 8, LatticeSheet.BAD_ARG);
        push(x, 5, 7, LatticeSheet.SHORT);
        push(x, 2, LOW, LatticeSheet.SHORT);
        Check.draft(x, 0, 1, 200, 2, 300, 3, 400);
        push(x, 0, 8, LatticeSheet.BAD_ARG);
        push(x, 5, 8, LatticeSheet.BAD_ARG);
        push(x, 2, 0, LatticeSheet.SHORT);
        push(x, 0, 7, LatticeSheet.OK);
        push(x, 6, 8, LatticeSheet.BAD_KIND);
        push(x, -1, 0, LatticeSheet.BAD_KIND);
        push(x, 0, 8, LatticeSheet.FULL);
        push(x, 1, 3, LatticeSheet.FULL);
        push(x, 5, 0, LatticeSheet.FULL);
        push(x, 3, 0, LatticeSheet.FULL);
        x.dropDraft();
        // A full draft that a whole formula could still be made of refuses all the same.
        Check.draft(x, 0, 0, 0, 0, 0, 200, 200, 200);
        push(x, 5, 1, LatticeSheet.FULL);
        push(x, 4, 0, LatticeSheet.FULL);
    }

    private static void keptArguments() {
        for (int arg : new int[] {LOW, -100, -1, 0, 1, 5, 99, 100, HIGH}) {
            LatticeSheet x = new LatticeSheet(3, 7);
            Check.draft(x, 1, 2, 3, 4);
            push(x, LatticeSheet.MIN, arg, LatticeSheet.OK);
            push(x, LatticeSheet.MAX, arg, LatticeSheet.OK);
            push(x, LatticeSheet.SUM, arg, LatticeSheet.OK);
            Check.reads("draft", x, DRAFT, 1, 2, 3, 4, 200, 300, 400);
            x.commit(2);
            Check.reads("formula", x, 2, 1, 2, 3, 4, 200, 300, 400);
        }
    }

    private static void depthAlongTheWay() {
        LatticeSheet x = new LatticeSheet(3, 7);
        Check.draft(x, 1, 2, 200, 101, 300);
        push(x, 4, 0, LatticeSheet.SHORT);
        Check.draft(x, 3, 400);
        push(x, 5, 3, LatticeSheet.SHORT);
        // A dropped or committed draft leaves no depth behind.
        x.dropDraft();
        push(x, 2, 0, LatticeSheet.SHORT);
        Check.draft(x, 1, 2);
        x.dropDraft();
        Check.draft(x, 3);
        push(x, 2, 0, LatticeSheet.SHORT);
        Check.due("commit(0)", x.commit(0), LatticeSheet.OK);
        Check.draft(x, 4);
        push(x, 2, 0, LatticeSheet.SHORT);
    }

    private static void pushIsNoEdit() {
        LatticeSheet x = new LatticeSheet(3, 7);
        Check.formula(x, 1, 102, 1, 400);
        x.setInput(2, 4);
        Check.draft(x, 101, 7, 400);
        Check.values("after pushes", x, 0, 5, 4);
        Check.deltas("after pushes", x, 0, 4, 4);
        Check.due("edited() after pushes", x.edited(), 2);
        Check.due("depends(1, 2) after pushes", x.depends(1, 2), true);
        Check.due("depends(1, 1) after pushes", x.depends(1, 1), false);
        Check.due("depends(2, 1) after pushes", x.depends(2, 1), false);
        Check.reads("formula after pushes", x, 1, 102, 1, 400);
        Check.reads("formula after pushes", x, 2, 4);
    }

    private static void dropping() {
        LatticeSheet x = new LatticeSheet(3, 7);
        String empty = Check.all(x);
        x.dropDraft();
        Check.same("dropDraft() of the empty draft", empty, x);
        Check.formula(x, 1, 101, 1, 400);
        String before = Check.all(x);
        Check.draft(x, 0, 1, 2, 3, 4, 5, 6, 7);
        x.dropDraft();
        Check.same("dropDraft() of the full draft", before, x);
        x.dropDraft();
        Check.same("dropDraft() twice", before, x);
        Check.due("commit(0) of the dropped draft", x.commit(0), LatticeSheet.MALFORMED);
        Check.due("edited() after dropDraft()", x.edited(), 1);
        Check.due("delta(1) after dropDraft()", x.delta(1), 7);
    }

    private static void readingBack() {
        LatticeSheet x = new LatticeSheet(4, 9);
        Check.formula(x, 3, 103, 7, 509, 102, 200, 9, 300);
        Check.draft(x, 101, 3);
        Check.reads("formula", x, 0, 0);
        Check.reads("formula", x, 3, 103, 7, 509, 102, 200, 9, 300);
        Check.reads("draft", x, DRAFT, 101, 3);
        for (int i : new int[] {LOW, -100, -1, 7, 8, 9, 100, HIGH}) {
            Check.due("tokenAt(3, " + i + ")", x.tokenAt(3, i), NONE);
            Check.due("tokenAt(DRAFT, " + i + ")", x.tokenAt(DRAFT, i), NONE);
        }
        for (int cell : new int[] {LOW, -100, -99, -2, 4, 5, 12, 13, HIGH}) {
            Check.due("length(" + cell + ")", x.length(cell), NONE);
            Check.due("tokenAt(" + cell + ", 0)", x.tokenAt(cell, 0), NONE);
        }
        // A shorter formula must hide what the longer one left.
        x.setInput(3, 5);
        Check.reads("formula set to a constant", x, 3, 5);
        x.dropDraft();
        Check.reads("dropped draft", x, DRAFT);
        for (int i : new int[] {LOW, -1, 0, 1, HIGH}) {
            Check.due("tokenAt(DRAFT, " + i + ") when empty", x.tokenAt(DRAFT, i), NONE);
        }
        Check.formula(x, 3, 0, 1, 2, 3, 400, 400, 400);
        Check.reads("formula of seven", x, 3, 0, 1, 2, 3, 400, 400, 400);
    }
}
