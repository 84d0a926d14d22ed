/** Promise 6, with the terms 'Formulas' and 'Shown values'. */
public final class ValueTest {
    public static void main(String[] args) {
        valueToken();
        refToken();
        minToken();
        maxToken();
        sumToken();
        resultsUpToTop();
        guardToken();
        operandOrder();
        firstToLast();
        ownReference();
        ownReferencePlusOne();
        loopsKeepNothing();
        vanishingSupport();
        earlierValues();
        atAllTimes();
        manyRounds();
        guardedLoops();
        insideAndOutside();
        draftHasNoInfluence();
        changesNothing();
        Check.end();
    }

    /** The result of a formula in cell 2 of a sheet whose cells 0 and 1 hold a and b. */
    private static void result(String what, int top, int a, int b, int want, int... tokens) {
        LatticeSheet x = new LatticeSheet(3, top);
        Check.input(x, 0, a);
        Check.input(x, 1, b);
        Check.formula(x, 2, tokens);
        Check.due(what + " of " + a + " and " + b + ", T = " + top, x.value(2), want);
    }

    private interface Operation {
        int of(int a, int b, int top);
    }

    /** All operands there are, given as cells and as constants. */
    private static void operation(String what, int token, Operation operation) {
        for (int top = 1; top <= 15; top++) {
            for (int a = 0; a <= top; a++) {
                for (int b = 0; b <= top; b++) {
                    int want = operation.of(a, b, top);
                    result(what, top, a, b, want, 100, 101, token);
                    result(what, top, a, b, want, a, b, token);
                }
            }
        }
    }

    private static void valueToken() {
        Check.sentence("VALUE k: push k (k in 0..T).");
        for (int top = 1; top <= 15; top++) {
            for (int k = 0; k <= top; k++) {
                result("VALUE " + k, top, 0, 0, k, k);
            }
        }
    }

    private static void refToken() {
        Check.sentence("REF c: push w[c] (c in 0..N-1).");
        for (int n = 2; n <= 12; n++) {
            LatticeSheet x = new LatticeSheet(n, 15);
            for (int c = 1; c < n; c++) {
                Check.input(x, c, c + 1);
            }
            for (int c = 1; c < n; c++) {
                Check.formula(x, 0, 100 + c);
                Check.due("REF " + c, x.value(0), c + 1);
            }
            // Cell 0 is a cell like any other.
            Check.input(x, 0, 14);
            Check.formula(x, n - 1, 100);
            Check.due("REF 0", x.value(n - 1), 14);
        }
    }

    private static void minToken() {
        Check.sentence("MIN: pop y, pop x, push the smaller of x and y.");
        operation("MIN", 200, (a, b, top) -> Math.min(a, b));
    }

    private static void maxToken() {
        Check.sentence("MAX: pop y, pop x, push the greater of x and y.");
        operation("MAX", 300, (a, b, top) -> Math.max(a, b));
    }

    private static void sumToken() {
        Check.sentence("SUM: pop y, pop x, push x+y, or T if x+y is above T.");
        operation("SUM", 400, (a, b, top) -> Math.min(a + b, top));
        for (int top = 1; top <= 15; top++) {
            result("just below T", top, top - 1, 0, top - 1, 100, 101, 400);
            result("just T", top, top - 1, 1, top, 100, 101, 400);
            result("just above T", top, top, 1, top, 100, 101, 400);
            result("far above T", top, top, top, top, 100, 101, 400);
        }
    }

    private static void resultsUpToTop() {
        Check.sentence("Results are always in 0..T.");
        result("four times T", 15, 15, 15, 15, 100, 101, 100, 101, 400, 400, 400);
        result("four times T", 1, 1, 1, 1, 100, 101, 400, 100, 400, 101, 400);
        // The sum passes T in the middle of the formula.
        result("guard over a sum above T", 9, 9, 9, 3, 100, 101, 400, 3, 509);
        result("sum above T as the guarded one", 9, 9, 9, 9, 9, 100, 101, 400, 501);
        result("min of a sum above T and T", 9, 9, 9, 9, 100, 101, 400, 9, 200);
        result("max of a sum above T and 0", 9, 9, 9, 9, 100, 101, 400, 0, 300);
        LatticeSheet x = new LatticeSheet(3, 9);
        Check.input(x, 0, 9);
        Check.formula(x, 1, 100, 100, 400);
        Check.formula(x, 2, 101, 101, 400);
        Check.values("sums of sums", x, 9, 9, 9);
    }

    private static void guardToken() {
        Check.sentence("GUARD k: pop y, pop x, push y if x >= k, otherwise push 0 (k in 1..T).");
        for (int k = 1; k <= 15; k++) {
            int guard = k;
            for (int top = k; top <= 15; top++) {
                result("guard just met", top, k, top, top, 100, 101, 500 + k);
                result("guard just missed", top, k - 1, top, 0, 100, 101, 500 + k);
                result("guard met by T", top, top, 1, 1, 100, 101, 500 + k);
                result("guard missed by 0", top, 0, top, 0, 100, 101, 500 + k);
                result("guard met, 0 behind it", top, k, 0, 0, 100, 101, 500 + k);
            }
            for (int a = 0; a <= 15; a++) {
                for (int b = 0; b <= 15; b++) {
                    result("GUARD " + k, 15, a, b, a >= guard ? b : 0, 100, 101, 500 + k);
                    result("GUARD " + k, 15, a, b, a >= guard ? b : 0, a, b, 500 + k);
                }
            }
        }
    }

    /** GUARD is the only operation for which it matters which operand was pushed last. */
    private static void operandOrder() {
        Check.sentence("Here y is the one popped first, that is, the one pushed last.");
        result("5 3 GUARD 4", 9, 0, 0, 3, 5, 3, 504);
        result("3 5 GUARD 4", 9, 0, 0, 0, 3, 5, 504);
        result("4 0 GUARD 4", 9, 0, 0, 0, 4, 0, 504);
        result("4 1 GUARD 4", 9, 0, 0, 1, 4, 1, 504);
        result("9 (1 2 GUARD 3) GUARD 1", 9, 0, 0, 0, 9, 1, 2, 503, 501);
        result("9 (1 2 GUARD 1) GUARD 3", 9, 0, 0, 2, 9, 1, 2, 501, 503);
        result("(3 5 GUARD 3) 7 GUARD 5", 9, 0, 0, 7, 3, 5, 503, 7, 505);
        result("(3 5 GUARD 3) 7 GUARD 6", 9, 0, 0, 0, 3, 5, 503, 7, 506);
    }

    private static void firstToLast() {
        Check.sentence("Evaluation goes from the first token to the last, "
            + "on a stack that is empty at first.");
        result("6 + min(11, 1 + 3)", 15, 6, 11, 10, 100, 101, 1, 3, 400, 200, 400);
        result("max(min(6 + 11, 9), 11)", 15, 6, 11, 11, 100, 101, 400, 9, 200, 101, 300);
        result("min(max(6 + 1, 11), 9)", 15, 6, 11, 9, 100, 1, 400, 101, 300, 9, 200);
        result("(6 + 1) + (11 min 2)", 15, 6, 11, 9, 100, 1, 400, 101, 2, 200, 400);
        result("6 max (1 + (2 + 3))", 15, 6, 11, 6, 100, 1, 2, 3, 400, 400, 300);
    }

    private static void ownReference() {
        Check.sentence("A cell whose formula is the single token REF to itself shows 0.");
        for (int n = 2; n <= 12; n++) {
            for (int c = 0; c < n; c++) {
                LatticeSheet x = new LatticeSheet(n, 15);
                Check.formula(x, c, 100 + c);
                Check.due("REF to itself", x.value(c), 0);
                Check.input(x, c, 15);
                Check.formula(x, c, 100 + c);
                Check.due("REF to itself after a constant", x.value(c), 0);
            }
        }
    }

    private static void ownReferencePlusOne() {
        Check.sentence("A cell whose formula is REF to itself, VALUE 1, SUM shows T.");
        for (int top = 1; top <= 15; top++) {
            for (int n = 2; n <= 12; n++) {
                LatticeSheet x = new LatticeSheet(n, top);
                for (int c = 0; c < n; c++) {
                    Check.formula(x, c, 100 + c, 1, 400);
                    Check.due("REF to itself, VALUE 1, SUM", x.value(c), top);
                }
            }
        }
    }

    private static void loopsKeepNothing() {
        Check.sentence("In particular a cycle never keeps a value that only the cycle itself supports.");
        for (int size = 1; size <= 12; size++) {
            LatticeSheet x = new LatticeSheet(12, 15);
            for (int c = 0; c < size; c++) {
                Check.input(x, c, 15);
            }
            // The ring is closed while every one of its cells shows T.
            for (int c = 0; c < size; c++) {
                Check.formula(x, c, 100 + (c + 1) % size);
            }
            for (int c = 0; c < size; c++) {
                Check.due("ring of " + size + ": value(" + c + ")", x.value(c), 0);
            }
        }
        selfSupport(102, 102, 400);
        selfSupport(102, 102, 300);
        selfSupport(102, 15, 200);
        selfSupport(102, 15, 501);
        selfSupport(15, 102, 501);
        selfSupport(102, 1, 400, 102, 200);
    }

    private static void selfSupport(int... tokens) {
        LatticeSheet x = new LatticeSheet(3, 15);
        Check.input(x, 2, 15);
        Check.formula(x, 2, tokens);
        Check.due("a cell that only it supports", x.value(2), 0);
    }

    private static void vanishingSupport() {
        Check.sentence("Such a value vanishes as soon as nothing outside its own loop "
            + "supports it any more.");
        for (int size = 1; size <= 11; size++) {
            LatticeSheet x = new LatticeSheet(12, 15);
            for (int c = 0; c < size; c++) {
                int next = 100 + (c + 1) % size;
                if (c == size / 2) {
                    Check.formula(x, c, next, 111, 300);
                } else {
                    Check.formula(x, c, next);
                }
            }
            for (int v : new int[] {9, 4, 15, 0, 1, 0}) {
                Check.input(x, 11, v);
                for (int c = 0; c < size; c++) {
                    Check.due("ring of " + size + " on " + v, x.value(c), v);
                }
            }
        }
        LatticeSheet x = new LatticeSheet(4, 15);
        Check.formula(x, 1, 100, 103, 300);
        Check.formula(x, 2, 101);
        Check.formula(x, 3, 102);
        Check.input(x, 2, 5);
        Check.values("supported from within", x, 0, 5, 5, 5);
        Check.formula(x, 2, 101);
        Check.values("loop closed again", x, 0, 0, 0, 0);
        // A loop of sums runs up to T and must come down when it is cut.
        Check.formula(x, 2, 101, 1, 400);
        Check.values("running up", x, 0, 15, 15, 15);
        Check.formula(x, 1, 100);
        Check.values("cut", x, 0, 0, 1, 1);
    }

    private static void earlierValues() {
        Check.sentence("Values shown earlier have no influence on the least solution.");
        LatticeSheet x = new LatticeSheet(2, 9);
        Check.input(x, 0, 7);
        Check.input(x, 1, 7);
        Check.formula(x, 0, 100);
        Check.values("own value", x, 0, 7);
        Check.input(x, 0, 7);
        Check.formula(x, 1, 100, 101, 200);
        Check.values("min with own value", x, 7, 0);
        Check.input(x, 1, 7);
        Check.formula(x, 0, 101);
        Check.values("copy", x, 7, 7);
        Check.formula(x, 1, 100);
        Check.values("two copies of each other", x, 0, 0);
        // An edit of a third cell does not bring an earlier value back.
        LatticeSheet y = new LatticeSheet(3, 9);
        Check.input(y, 0, 7);
        Check.formula(y, 1, 100);
        Check.formula(y, 0, 101);
        Check.input(y, 2, 9);
        Check.values("after another edit", y, 0, 0, 9);
    }

    private static void atAllTimes() {
        Check.sentence("The shown values are at all times the least solution for the present formulas.");
        LatticeSheet x = new LatticeSheet(12, 15);
        for (int c = 0; c < 11; c++) {
            Check.formula(x, c, 101 + c, 1, 400);
            chain("while it is built", x, c + 1, 0);
        }
        for (int v = 15; v >= 0; v--) {
            Check.input(x, 11, v);
            chain("after an edit of its end", x, 11, v);
            x.setInput(11, 16);
            x.commit(11);
            chain("after refusals", x, 11, v);
        }
    }

    /** A chain in which every cell up to the end is one above the next. */
    private static void chain(String when, LatticeSheet x, int end, int v) {
        for (int c = 0; c < 12; c++) {
            int want = c > end ? 0 : Math.min(15, v + end - c);
            Check.due("chain " + when + ": value(" + c + ")", x.value(c), want);
        }
    }

    private static void manyRounds() {
        Check.sentence("All operations are monotone, so there is always a least solution.");
        for (int turn = 1; turn <= 11; turn += 2) {
            if (turn % 3 != 0) {
                ring(turn);
            }
        }
        slowest(1);
        slowest(-1);
    }

    /**
     * Each cell counts up to T alone, one step after the other, and starts when the cell before it
     * is done: no sheet needs more steps, whichever way the cells are gone through.
     */
    private static void slowest(int way) {
        LatticeSheet x = new LatticeSheet(12, 15);
        int first = way == 1 ? 0 : 11;
        Check.formula(x, first, 100 + first, 1, 400);
        for (int i = 1; i < 12; i++) {
            int cell = first + way * i;
            Check.formula(x, cell, 100 + cell - way, 100 + cell, 1, 400, 515);
        }
        for (int c = 0; c < 12; c++) {
            Check.due("counting by " + way + ": value(" + c + ")", x.value(c), 15);
        }
        Check.formula(x, first, 100 + first, 1, 400, 14, 200);
        for (int c = 0; c < 12; c++) {
            Check.due("stopped by " + way + ": value(" + c + ")", x.value(c), c == first ? 14 : 0);
        }
    }

    /** Each unit has to go around the whole ring, so the least solution is many rounds away. */
    private static void ring(int turn) {
        LatticeSheet x = new LatticeSheet(12, 15);
        for (int c = 0; c < 12; c++) {
            int next = 100 + (c + turn) % 12;
            if (c == 5) {
                Check.formula(x, c, next, 1, 400);
            } else {
                Check.formula(x, c, next);
            }
        }
        for (int c = 0; c < 12; c++) {
            Check.due("ring: value(" + c + ")", x.value(c), 15);
        }
        // Held below 12 at one cell, the ring stops there.
        Check.formula(x, 5, 100 + (5 + turn) % 12, 1, 400, 11, 200);
        for (int c = 0; c < 12; c++) {
            Check.due("held ring: value(" + c + ")", x.value(c), 11);
        }
    }

    private static void guardedLoops() {
        Check.sentence("A least solution is, cell by cell, no greater than any other solution.");
        LatticeSheet x = new LatticeSheet(3, 9);
        Check.formula(x, 0, 101, 9, 503, 102, 300);
        Check.formula(x, 1, 100);
        // With both loop cells at 9 this would be a solution too, but not the least one.
        Check.values("guard closed", x, 0, 0, 0);
        Check.input(x, 2, 2);
        Check.values("guard just missed", x, 2, 2, 2);
        Check.input(x, 2, 3);
        Check.values("guard just met", x, 9, 9, 3);
        Check.input(x, 2, 2);
        Check.values("guard just missed again", x, 2, 2, 2);
    }

    private static void insideAndOutside() {
        Check.sentence("value(cell) answers the shown value of cell, in 0..T, "
            + "if cell is in 0..N-1; otherwise NONE.");
        for (int n = 2; n <= 12; n++) {
            LatticeSheet x = new LatticeSheet(n, 15);
            for (int c = 0; c < n; c++) {
                Check.input(x, c, 15 - c);
            }
            Check.draft(x, 7);
            for (int c = 0; c < n; c++) {
                Check.due("value(" + c + ")", x.value(c), 15 - c);
            }
            Check.due("value(-1)", x.value(-1), LatticeSheet.NONE);
            Check.due("value(" + n + ")", x.value(n), LatticeSheet.NONE);
            for (int cell : Check.outside(0, n - 1)) {
                Check.due("value(" + cell + ")", x.value(cell), LatticeSheet.NONE);
            }
        }
    }

    private static void draftHasNoInfluence() {
        Check.sentence("Tokens in the draft have no influence on it.");
        LatticeSheet x = new LatticeSheet(3, 9);
        Check.formula(x, 0, 101, 1, 400);
        for (int token : new int[] {9, 101, 400, 100, 300, 8, 200}) {
            Check.draft(x, token);
            Check.values("while drafting", x, 1, 0, 0);
            Check.input(x, 2, 0);
            Check.values("edit while drafting", x, 1, 0, 0);
        }
        x.dropDraft();
        Check.values("draft dropped", x, 1, 0, 0);
    }

    private static void changesNothing() {
        Check.sentence("The call changes nothing.");
        for (int cell : Check.any()) {
            Check.changesNothing("value(" + cell + ")", x -> x.value(cell));
        }
    }
}
