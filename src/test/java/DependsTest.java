/** Promise 9, with the term 'Dependence'. */
public final class DependsTest {
    public static void main(String[] args) {
        uses();
        noUses();
        uselessUses();
        chains();
        longestChains();
        cycles();
        besideACycle();
        ownCycle();
        presentFormulas();
        draftAndRefusals();
        outside();
        changesNothing();
        Check.end();
    }

    private static void uses() {
        Check.sentence("Cell c uses cell d if the formula of c has at least one token REF d.");
        for (int n = 2; n <= 12; n++) {
            for (int d = 0; d < n; d++) {
                LatticeSheet x = new LatticeSheet(n, 5);
                int c = (d + 1) % n;
                Check.formula(x, c, 100 + d);
                onlyUse("single token", x, n, c, d);
                Check.formula(x, c, 100 + d, 100 + d, 400);
                onlyUse("used twice", x, n, c, d);
            }
        }
        // The token may stand at any place of the formula.
        LatticeSheet x = new LatticeSheet(5, 5);
        Check.formula(x, 0, 101, 102, 103, 104, 300, 300, 300);
        Check.depends("four uses", x, "01111", "00000", "00000", "00000", "00000");
        Check.formula(x, 0, 1, 2, 200, 3, 300, 104, 400);
        Check.depends("a use at the end", x, "00001", "00000", "00000", "00000", "00000");
    }

    private static void onlyUse(String when, LatticeSheet x, int n, int cell, int other) {
        for (int c = 0; c < n; c++) {
            for (int d = 0; d < n; d++) {
                Check.due(when + ": depends(" + c + ", " + d + ")",
                    x.depends(c, d), c == cell && d == other);
            }
        }
    }

    private static void noUses() {
        Check.sentence("Only a token REF d is a use of d: no VALUE, GUARD or other token is.");
        LatticeSheet x = new LatticeSheet(4, 5);
        Check.formula(x, 0, 1, 2, 503, 3, 200);
        Check.formula(x, 1, 0, 1, 501);
        Check.formula(x, 2, 2);
        Check.depends("no uses", x, "0000", "0000", "0000", "0000");
    }

    private static void uselessUses() {
        Check.sentence("... whether or not that token can influence the result.");
        LatticeSheet x = new LatticeSheet(4, 5);
        Check.formula(x, 0, 101, 0, 200);
        Check.depends("min with 0", x, "0100", "0000", "0000", "0000");
        Check.formula(x, 1, 0, 102, 501);
        Check.depends("guard never met", x, "0110", "0010", "0000", "0000");
        Check.formula(x, 2, 5, 103, 300);
        Check.depends("max with T", x, "0111", "0011", "0001", "0000");
        Check.formula(x, 3, 100, 5, 400);
        Check.depends("sum with T", x, "1111", "1111", "1111", "1111");
        Check.formula(x, 3, 102, 0, 501);
        Check.depends("0 behind a guard", x, "0111", "0011", "0011", "0011");
        Check.formula(x, 3, 0, 103, 200);
        Check.depends("itself, min with 0", x, "0111", "0011", "0001", "0001");
    }

    private static void chains() {
        Check.sentence("Cell c depends on d if there is a chain of one or more uses from c to d.");
        LatticeSheet x = new LatticeSheet(4, 5);
        Check.formula(x, 0, 102);
        Check.depends("one use", x, "0010", "0000", "0000", "0000");
        Check.formula(x, 2, 101);
        Check.depends("two uses", x, "0110", "0000", "0100", "0000");
        Check.formula(x, 1, 103);
        Check.depends("three uses", x, "0111", "0001", "0101", "0000");
        Check.formula(x, 3, 102);
        Check.depends("closed at the end", x, "0111", "0111", "0111", "0111");
    }

    /** Chains through all cells, whichever way the numbers run. */
    private static void longestChains() {
        Check.sentence("c uses d, or c uses some e that depends on d.");
        for (int step : new int[] {1, 5, 7, 11}) {
            LatticeSheet x = new LatticeSheet(12, 5);
            for (int i = 0; i < 11; i++) {
                Check.formula(x, i * step % 12, 100 + (i + 1) * step % 12);
            }
            for (int i = 0; i < 12; i++) {
                for (int j = 0; j < 12; j++) {
                    Check.due("chain by " + step + ": place " + i + " on place " + j,
                        x.depends(i * step % 12, j * step % 12), i < j);
                }
            }
        }
    }

    private static void cycles() {
        Check.sentence("A cell depends on itself exactly if it lies on a cycle.");
        for (int n = 2; n <= 12; n++) {
            for (int size = 1; size <= n; size++) {
                LatticeSheet x = new LatticeSheet(n, 5);
                int first = n - size;
                for (int c = first; c < n; c++) {
                    Check.formula(x, c, 100 + (c + 1 < n ? c + 1 : first));
                }
                for (int c = 0; c < n; c++) {
                    for (int d = 0; d < n; d++) {
                        Check.due("ring of " + size + ": depends(" + c + ", " + d + ")",
                            x.depends(c, d), c >= first && d >= first);
                    }
                }
            }
        }
    }

    private static void besideACycle() {
        Check.sentence("The two may be equal: then it tells whether the cell lies on a cycle, "
            + "so it is false for a cell that lies on none.");
        LatticeSheet x = new LatticeSheet(5, 5);
        // 1 and 2 are the cycle; 0 rests on it, it rests on 3, and 4 has nothing to do with it.
        Check.formula(x, 1, 102, 103, 300);
        Check.formula(x, 2, 101);
        Check.formula(x, 0, 102);
        Check.depends("beside a cycle", x, "01110", "01110", "01110", "00000", "00000");
    }

    private static void ownCycle() {
        Check.sentence("A cell that uses itself is such a cycle.");
        for (int n = 2; n <= 12; n++) {
            for (int c = 0; c < n; c++) {
                LatticeSheet x = new LatticeSheet(n, 5);
                Check.formula(x, c, 100 + c);
                onlyUse("uses itself", x, n, c, c);
            }
        }
    }

    private static void presentFormulas() {
        Check.sentence("depends(cell, other) answers whether cell depends on other, "
            + "for the present formulas.");
        LatticeSheet x = new LatticeSheet(3, 5);
        Check.depends("new", x, "000", "000", "000");
        Check.formula(x, 0, 101, 102, 400);
        Check.formula(x, 1, 100);
        Check.depends("before", x, "111", "111", "000");
        // The tokens that stood behind the one token of the constant no longer count.
        Check.input(x, 0, 3);
        Check.depends("set to a constant", x, "000", "100", "000");
        Check.formula(x, 1, 102);
        Check.depends("another use", x, "000", "001", "000");
        Check.formula(x, 0, 101);
        Check.depends("chain", x, "011", "001", "000");
        Check.formula(x, 1, 4);
        Check.depends("chain cut", x, "010", "000", "000");
    }

    private static void draftAndRefusals() {
        Check.sentence("An accepted push changes the draft only; ... dependence ... stay as they are.");
        LatticeSheet x = new LatticeSheet(3, 5);
        Check.formula(x, 0, 102);
        Check.draft(x, 100, 101, 300);
        x.commit(3);
        x.setInput(0, 6);
        Check.depends("draft and refusals", x, "001", "000", "000");
        x.commit(2);
        Check.depends("committed", x, "111", "000", "111");
    }

    private static void outside() {
        Check.sentence("It answers false if cell or other is not in 0..N-1.");
        for (int n = 2; n <= 12; n++) {
            LatticeSheet x = new LatticeSheet(n, 5);
            for (int c = 0; c < n; c++) {
                Check.formula(x, c, 100 + (c + 1) % n);
            }
            Check.draft(x, 100);
            for (int no : Check.outside(0, n - 1)) {
                for (int c = 0; c < n; c++) {
                    Check.due("depends(" + no + ", " + c + ")", x.depends(no, c), false);
                    Check.due("depends(" + c + ", " + no + ")", x.depends(c, no), false);
                }
                for (int other : new int[] {no, -no, -1, n, Check.LOW, Check.HIGH}) {
                    boolean inside = other >= 0 && other < n;
                    if (!inside) {
                        Check.due("depends(" + no + ", " + other + ")", x.depends(no, other), false);
                    }
                }
            }
        }
    }

    private static void changesNothing() {
        Check.sentence("The call changes nothing.");
        for (int no : Check.any()) {
            Check.changesNothing("depends(" + no + ", 1)", x -> x.depends(no, 1));
            Check.changesNothing("depends(1, " + no + ")", x -> x.depends(1, no));
        }
    }
}
