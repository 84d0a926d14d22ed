/** Promise 6: the shown values are the least solution for the present formulas. */
public final class ValueTest {
    private static final int LOW = Integer.MIN_VALUE;
    private static final int HIGH = Integer.MAX_VALUE;

    public static void main(String[] args) {
        operations();
        operandOrder();
        longFormula();
        selfReferences();
        vanishingSupport();
        earlierValuesDoNotCount();
        slowestClimb();
        guardedLoops();
        backwardChain();
        draftHasNoInfluence();
        outside();
        Check.end();
    }

    private static void operations() {
        int[] tops = {1, 2, 7, 15};
        for (int top : tops) {
            LatticeSheet x = new LatticeSheet(7, top);
            Check.formula(x, 2, 100, 101, 200);
            Check.formula(x, 3, 100, 101, 300);
            Check.formula(x, 4, 100, 101, 400);
            Check.formula(x, 5, 100, 101, 501);
            Check.formula(x, 6, 100, 101, 500 + top);
            for (int a = 0; a <= top; a++) {
                for (int b = 0; b <= top; b++) {
                    x.setInput(0, a);
                    x.setInput(1, b);
                    Check.values("top " + top, x, a, b, Math.min(a, b), Math.max(a, b),
                        Math.min(a + b, top), a >= 1 ? b : 0, a >= top ? b : 0);
                }
            }
        }
    }

    /** GUARD is the only operation for which it matters which operand was pushed last. */
    private static void operandOrder() {
        LatticeSheet x = new LatticeSheet(2, 9);
        Check.formula(x, 0, 5, 3, 504);
        Check.due("5 3 GUARD 4", x.value(0), 3);
        Check.formula(x, 0, 3, 5, 504);
        Check.due("3 5 GUARD 4", x.value(0), 0);
        Check.formula(x, 0, 4, 0, 504);
        Check.due("4 0 GUARD 4", x.value(0), 0);
        Check.formula(x, 0, 4, 1, 504);
        Check.due("4 1 GUARD 4", x.value(0), 1);
        Check.formula(x, 0, 9, 1, 2, 503, 501);
        Check.due("9 (1 2 GUARD 3) GUARD 1", x.value(0), 0);
        Check.formula(x, 0, 9, 1, 2, 501, 503);
        Check.due("9 (1 2 GUARD 1) GUARD 3", x.value(0), 2);
    }

    private static void longFormula() {
        LatticeSheet x = new LatticeSheet(3, 15);
        x.setInput(1, 6);
        x.setInput(2, 11);
        Check.formula(x, 0, 101, 102, 1, 3, 400, 200, 400);
        Check.due("6 + min(11, 1 + 3)", x.value(0), 10);
        Check.formula(x, 0, 101, 102, 400, 9, 200, 102, 300);
        Check.due("max(min(6 + 11, 9), 11)", x.value(0), 11);
        // A sum is held at the top at once, not at the end.
        Check.formula(x, 0, 101, 102, 400, 15, 515, 3, 200);
        Check.due("min(guard(6 + 11 >= 15, 15), 3)", x.value(0), 3);
    }

    private static void selfReferences() {
        for (int top = 1; top <= 15; top++) {
            LatticeSheet x = new LatticeSheet(3, top);
            Check.formula(x, 0, 100);
            Check.formula(x, 1, 101, 1, 400);
            Check.formula(x, 2, 102, 102, 400);
            Check.values("top " + top, x, 0, top, 0);
            Check.formula(x, 2, 102, top, 501);
            Check.due("guard on itself", x.value(2), 0);
            Check.formula(x, 2, 102, top, 200);
            Check.due("min with itself", x.value(2), 0);
            Check.formula(x, 2, 102, 1, 300);
            Check.due("max with itself", x.value(2), 1);
        }
    }

    private static void vanishingSupport() {
        LatticeSheet x = new LatticeSheet(4, 15);
        x.setInput(0, 9);
        Check.formula(x, 1, 100, 103, 300);
        Check.formula(x, 2, 101);
        Check.formula(x, 3, 102);
        Check.values("supported", x, 9, 9, 9, 9);
        x.setInput(0, 4);
        Check.values("less supported", x, 4, 4, 4, 4);
        x.setInput(0, 0);
        Check.values("no longer supported", x, 0, 0, 0, 0);
        x.setInput(2, 5);
        Check.values("supported from within", x, 0, 5, 5, 5);
        Check.formula(x, 2, 101);
        Check.values("loop closed again", x, 0, 0, 0, 0);
        // A loop of sums runs up to the top and must come down when it is cut.
        Check.formula(x, 2, 101, 1, 400);
        Check.values("running up", x, 0, 15, 15, 15);
        Check.formula(x, 1, 100);
        Check.values("cut", x, 0, 0, 1, 1);
    }

    private static void earlierValuesDoNotCount() {
        LatticeSheet x = new LatticeSheet(2, 9);
        x.setInput(0, 7);
        x.setInput(1, 7);
        Check.formula(x, 0, 100);
        Check.values("own value", x, 0, 7);
        x.setInput(0, 7);
        Check.formula(x, 1, 100, 101, 200);
        Check.values("min with own value", x, 7, 0);
        x.setInput(1, 7);
        Check.formula(x, 0, 101);
        Check.values("copy", x, 7, 7);
        Check.formula(x, 1, 100);
        Check.values("two copies of each other", x, 0, 0);
    }

    /** Each unit has to go around the whole ring, so the least solution is many rounds away. */
    private static void slowestClimb() {
        for (int turn = 0; turn < 2; turn++) {
            LatticeSheet x = new LatticeSheet(12, 15);
            for (int c = 0; c < 12; c++) {
                int next = turn == 0 ? (c + 1) % 12 : (c + 11) % 12;
                if (c == 5) {
                    Check.formula(x, c, 100 + next, 1, 400);
                } else {
                    Check.formula(x, c, 100 + next);
                }
            }
            for (int c = 0; c < 12; c++) {
                Check.due("ring: value(" + c + ")", x.value(c), 15);
            }
        }
    }

    private static void guardedLoops() {
        LatticeSheet x = new LatticeSheet(3, 9);
        Check.formula(x, 0, 101, 9, 503, 102, 300);
        Check.formula(x, 1, 100);
        Check.values("guard closed", x, 0, 0, 0);
        x.setInput(2, 2);
        Check.values("below the guard", x, 2, 2, 2);
        x.setInput(2, 3);
        Check.values("at the guard", x, 9, 9, 3);
        x.setInput(2, 2);
        Check.values("below the guard again", x, 2, 2, 2);
    }

    private static void backwardChain() {
        LatticeSheet x = new LatticeSheet(12, 15);
        for (int c = 0; c < 11; c++) {
            Check.formula(x, c, 100 + c + 1, 1, 400);
        }
        for (int v = 0; v <= 15; v++) {
            x.setInput(11, v);
            for (int c = 0; c < 12; c++) {
                Check.due("chain: value(" + c + ")", x.value(c), Math.min(15, v + 11 - c));
            }
        }
    }

    private static void draftHasNoInfluence() {
        LatticeSheet x = new LatticeSheet(3, 9);
        Check.formula(x, 0, 101, 1, 400);
        int[] tokens = {9, 101, 400, 100, 300, 8, 200};
        for (int token : tokens) {
            Check.draft(x, token);
            Check.values("while drafting", x, 1, 0, 0);
            x.setInput(2, 0);
            Check.values("edit while drafting", x, 1, 0, 0);
        }
    }

    private static void outside() {
        for (int n = 2; n <= 12; n++) {
            LatticeSheet x = new LatticeSheet(n, 15);
            x.setInput(n - 1, 15);
            Check.due("value of the last cell", x.value(n - 1), 15);
            for (int cell : new int[] {LOW, -99, -2, -1, n, n + 1, 13, HIGH}) {
                Check.due("value(" + cell + ")", x.value(cell), LatticeSheet.NONE);
            }
        }
    }
}
