import java.util.Arrays;

/** Promise 2: appending a token to the draft. */
public final class PushTest {
    private static final int DRAFT = LatticeSheet.DRAFT;
    private static final int[] OPERATORS = {
        LatticeSheet.MIN, LatticeSheet.MAX, LatticeSheet.SUM, LatticeSheet.GUARD};

    public static void main(String[] args) {
        badKind();
        everyKind();
        full();
        valueArgument();
        refArgument();
        guardArgument();
        anyArgumentPasses();
        shortDraft();
        depth();
        kindBeforeAll();
        fullBeforeArgument();
        argumentBeforeShort();
        appended();
        keptAsZero();
        keptAsGiven();
        draftOnly();
        noEdit();
        Check.end();
    }

    private static LatticeSheet drafted(int... tokens) {
        LatticeSheet x = Check.filled();
        Check.draft(x, tokens);
        return x;
    }

    private static void refused(LatticeSheet x, int kind, int arg, int want) {
        Check.refused("push(" + kind + ", " + arg + ")", x, () -> x.push(kind, arg), want);
    }

    private static void accepted(LatticeSheet x, int kind, int arg) {
        Check.due("push(" + kind + ", " + arg + ")", x.push(kind, arg), LatticeSheet.OK);
    }

    private static void badKind() {
        Check.sentence("1. kind is not in 0..5: BAD_KIND.");
        LatticeSheet empty = drafted();
        LatticeSheet two = drafted(1, 2);
        for (int kind : Check.outside(0, 5)) {
            for (int arg : new int[] {0, 1}) {
                refused(empty, kind, arg, LatticeSheet.BAD_KIND);
                refused(two, kind, arg, LatticeSheet.BAD_KIND);
            }
        }
    }

    private static void everyKind() {
        Check.sentence("Token kinds: VALUE = 0, REF = 1, MIN = 2, MAX = 3, SUM = 4, GUARD = 5.");
        for (int kind = 0; kind <= 5; kind++) {
            LatticeSheet x = drafted(1, 2);
            accepted(x, kind, 1);
            boolean plain = kind >= 2 && kind <= 4;
            Check.reads("kind " + kind, x, DRAFT, 1, 2, 100 * kind + (plain ? 0 : 1));
        }
    }

    private static void full() {
        Check.sentence("2. The draft has MAX_TOKENS tokens: FULL.");
        int[][] sevens = {
            {1, 2, 3, 4, 5, 6, 7},
            {1, 2, 200, 3, 300, 4, 400},
            {1, 2, 3, 4, 400, 400, 400},
            {101, 102, 103, 100, 1, 200, 501},
        };
        for (int[] seven : sevens) {
            LatticeSheet x = drafted(seven);
            accepted(x, 0, 8);
            Check.due("length of the draft", x.length(DRAFT), 8);
            for (int kind = 0; kind <= 5; kind++) {
                refused(x, kind, 1, LatticeSheet.FULL);
            }
            x.dropDraft();
            accepted(x, 0, 8);
        }
        for (int operator : OPERATORS) {
            LatticeSheet x = drafted(1, 2, 3, 4, 5, 6, 7);
            accepted(x, operator, 1);
            refused(x, operator, 1, LatticeSheet.FULL);
            refused(x, 0, 1, LatticeSheet.FULL);
        }
    }

    private static void valueArgument() {
        Check.sentence("3. kind is VALUE and arg is not in 0..T: BAD_ARG.");
        for (int cells : new int[] {2, 12}) {
            for (int top = 1; top <= 15; top++) {
                arguments(new LatticeSheet(cells, top), LatticeSheet.VALUE, 0, top);
            }
        }
    }

    private static void refArgument() {
        Check.sentence("3. kind is REF and arg is not in 0..N-1: BAD_ARG.");
        for (int top : new int[] {1, 15}) {
            for (int cells = 2; cells <= 12; cells++) {
                arguments(new LatticeSheet(cells, top), LatticeSheet.REF, 0, cells - 1);
            }
        }
    }

    private static void guardArgument() {
        Check.sentence("3. kind is GUARD and arg is not in 1..T: BAD_ARG.");
        for (int cells : new int[] {2, 12}) {
            for (int top = 1; top <= 15; top++) {
                arguments(new LatticeSheet(cells, top), LatticeSheet.GUARD, 1, top);
            }
        }
    }

    /** Every argument inside passes, every one outside is refused. */
    private static void arguments(LatticeSheet x, int kind, int low, int high) {
        for (int arg = low; arg <= high; arg++) {
            Check.draft(x, 0, 0);
            accepted(x, kind, arg);
            Check.reads("accepted", x, DRAFT, 0, 0, 100 * kind + arg);
            x.dropDraft();
        }
        Check.draft(x, 0, 0);
        for (int arg : Check.outside(low, high)) {
            refused(x, kind, arg, LatticeSheet.BAD_ARG);
        }
    }

    private static void anyArgumentPasses() {
        Check.sentence("For MIN, MAX and SUM any arg passes.");
        for (int arg : Check.any()) {
            for (int kind = LatticeSheet.MIN; kind <= LatticeSheet.SUM; kind++) {
                accepted(drafted(1, 2), kind, arg);
                accepted(drafted(1, 2, 3, 4, 5, 6, 7), kind, arg);
            }
        }
    }

    private static void shortDraft() {
        Check.sentence("4. kind is MIN, MAX, SUM or GUARD and the depth of the draft is below 2: SHORT.");
        int[][] shorts = {{}, {1}, {103}, {1, 2, 200}, {1, 2, 505}, {1, 2, 300, 3, 400},
            {1, 2, 3, 300, 400}, {1, 2, 3, 4, 200, 300, 400}};
        int[][] longEnough = {{1, 2}, {103, 2}, {1, 103}, {1, 2, 3}, {1, 2, 200, 3}, {1, 2, 3, 505},
            {1, 2, 3, 4, 5, 6, 7}};
        for (int operator : OPERATORS) {
            for (int[] tokens : shorts) {
                refused(drafted(tokens), operator, 1, LatticeSheet.SHORT);
            }
            for (int[] tokens : longEnough) {
                accepted(drafted(tokens), operator, 1);
            }
        }
        // An operand needs no depth.
        for (int[] tokens : shorts) {
            accepted(drafted(tokens), LatticeSheet.VALUE, 1);
            accepted(drafted(tokens), LatticeSheet.REF, 1);
        }
    }

    private static void depth() {
        Check.sentence("VALUE and REF add 1; each of MIN, MAX, SUM and GUARD takes away 1; "
            + "the empty draft has depth 0.");
        for (int operator : OPERATORS) {
            LatticeSheet x = drafted();
            refused(x, operator, 1, LatticeSheet.SHORT);
            accepted(x, LatticeSheet.REF, 1);
            refused(x, operator, 1, LatticeSheet.SHORT);
            accepted(x, LatticeSheet.VALUE, 1);
            accepted(x, LatticeSheet.REF, 2);
            accepted(x, operator, 1);
            accepted(x, operator, 1);
            refused(x, operator, 1, LatticeSheet.SHORT);
            Check.due("commit(0)", x.commit(0), LatticeSheet.OK);
            refused(x, operator, 1, LatticeSheet.SHORT);
        }
    }

    private static void kindBeforeAll() {
        Check.sentence("The first that applies gives the answer: BAD_KIND before FULL, BAD_ARG and SHORT.");
        LatticeSheet full = drafted(1, 2, 3, 4, 5, 6, 7, 8);
        LatticeSheet empty = drafted();
        LatticeSheet one = drafted(1);
        for (int kind : new int[] {Check.LOW, -1, 6, Check.HIGH}) {
            for (int arg : Check.any()) {
                refused(full, kind, arg, LatticeSheet.BAD_KIND);
                refused(empty, kind, arg, LatticeSheet.BAD_KIND);
                refused(one, kind, arg, LatticeSheet.BAD_KIND);
            }
        }
    }

    /** A full draft is never short: eight tokens that did not run short have depth 2 or more. */
    private static void fullBeforeArgument() {
        Check.sentence("The first that applies gives the answer: FULL before BAD_ARG.");
        LatticeSheet deep = drafted(1, 2, 3, 4, 5, 6, 7, 8);
        LatticeSheet flat = drafted(1, 2, 200, 3, 200, 4, 200, 5);
        for (int kind = 0; kind <= 5; kind++) {
            for (int arg : Check.any()) {
                refused(deep, kind, arg, LatticeSheet.FULL);
                refused(flat, kind, arg, LatticeSheet.FULL);
            }
        }
    }

    private static void argumentBeforeShort() {
        Check.sentence("The first that applies gives the answer: BAD_ARG before SHORT.");
        for (int[] tokens : new int[][] {{}, {1}, {1, 2, 200}}) {
            LatticeSheet x = drafted(tokens);
            for (int arg : Check.outside(1, 9)) {
                refused(x, LatticeSheet.GUARD, arg, LatticeSheet.BAD_ARG);
            }
            for (int arg = 1; arg <= 9; arg++) {
                refused(x, LatticeSheet.GUARD, arg, LatticeSheet.SHORT);
            }
            for (int arg : Check.any()) {
                refused(x, LatticeSheet.MIN, arg, LatticeSheet.SHORT);
                refused(x, LatticeSheet.MAX, arg, LatticeSheet.SHORT);
                refused(x, LatticeSheet.SUM, arg, LatticeSheet.SHORT);
            }
        }
    }

    private static void appended() {
        Check.sentence("Otherwise the token is appended and the answer is OK.");
        LatticeSheet x = drafted();
        int[] tokens = {103, 0, 9, 509, 100, 200, 300, 102};
        for (int i = 0; i < tokens.length; i++) {
            accepted(x, tokens[i] / 100, tokens[i] % 100);
            Check.reads("appended", x, DRAFT, Arrays.copyOf(tokens, i + 1));
        }
    }

    private static void keptAsZero() {
        Check.sentence("The argument of a MIN, MAX or SUM token is kept as 0, whatever arg is.");
        for (int arg : Check.any()) {
            LatticeSheet x = drafted(1, 2, 3, 4);
            accepted(x, LatticeSheet.MIN, arg);
            accepted(x, LatticeSheet.MAX, arg);
            accepted(x, LatticeSheet.SUM, arg);
            Check.reads("draft", x, DRAFT, 1, 2, 3, 4, 200, 300, 400);
            Check.due("commit(2)", x.commit(2), LatticeSheet.OK);
            Check.reads("formula", x, 2, 1, 2, 3, 4, 200, 300, 400);
            Check.due("1 + max(2, min(3, 4))", x.value(2), 4);
        }
    }

    private static void keptAsGiven() {
        Check.sentence("The argument of a VALUE, REF or GUARD token is kept as given.");
        LatticeSheet x = new LatticeSheet(12, 15);
        for (int k = 0; k <= 15; k++) {
            int cell = k % 12;
            int guard = k == 0 ? 1 : k;
            Check.draft(x, k, 100 + cell, 500 + guard);
            Check.reads("draft", x, DRAFT, k, 100 + cell, 500 + guard);
            Check.due("commit(3)", x.commit(3), LatticeSheet.OK);
            Check.reads("formula", x, 3, k, 100 + cell, 500 + guard);
        }
    }

    private static void draftOnly() {
        Check.sentence("An accepted push changes the draft only; formulas, shown values, deltas, "
            + "dependence and the edited cell stay as they are.");
        LatticeSheet x = Check.filled();
        String before = Check.sheet(x);
        for (int token : new int[] {9, 103, 400, 100, 300, 101, 505, 7}) {
            accepted(x, token / 100, token % 100);
            Check.same("accepted push of " + token, before, Check.sheet(x));
        }
    }

    private static void noEdit() {
        Check.sentence("A push is not an edit.");
        LatticeSheet x = new LatticeSheet(3, 7);
        Check.draft(x, 7);
        Check.due("edited() after a push alone", x.edited(), LatticeSheet.NONE);
        x.dropDraft();
        Check.formula(x, 1, 102, 1, 400);
        Check.input(x, 2, 4);
        Check.draft(x, 101, 7, 400);
        Check.due("edited() after pushes", x.edited(), 2);
        Check.deltas("after pushes", x, 0, 4, 4);
    }
}
