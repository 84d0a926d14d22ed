/** Promises 9, 10 and 11: dependence, leaders and the order of the sheet. */
public final class DependenceTest {
    private static final int LOW = Integer.MIN_VALUE;
    private static final int HIGH = Integer.MAX_VALUE;

    public static void main(String[] args) {
        ownLoop();
        chainsOfUses();
        uselessUses();
        followsTheFormulas();
        everyRing();
        componentsAndRanks();
        equalRanks();
        rankCountsCells();
        unmovedByDraftAndRefusal();
        outside();
        Check.end();
    }

    /** Row c tells by '1' at place d that c depends on d. */
    private static void depends(String when, LatticeSheet x, String... rows) {
        for (int c = 0; c < rows.length; c++) {
            for (int d = 0; d < rows.length; d++) {
                Check.due(when + ": depends(" + c + ", " + d + ")",
                    x.depends(c, d), rows[c].charAt(d) == '1');
            }
        }
    }

    private static void ownLoop() {
        LatticeSheet x = new LatticeSheet(3, 5);
        Check.formula(x, 1, 101);
        depends("own loop", x, "000", "010", "000");
        Check.leaders("own loop", x, 0, 1, 2);
        Check.order("own loop", x, 0, 1, 2);
    }

    private static void chainsOfUses() {
        LatticeSheet x = new LatticeSheet(4, 5);
        Check.formula(x, 0, 102);
        Check.formula(x, 2, 101);
        Check.formula(x, 1, 103);
        depends("chain", x, "0111", "0001", "0101", "0000");
        Check.leaders("chain", x, 0, 1, 2, 3);
        Check.order("chain", x, 3, 1, 2, 0);
        Check.formula(x, 3, 102);
        depends("chain closed at the end", x, "0111", "0111", "0111", "0111");
        Check.leaders("chain closed at the end", x, 0, 1, 1, 1);
        Check.order("chain closed at the end", x, 1, 2, 3, 0);
    }

    /** A token counts as a use whether or not it can influence the result. */
    private static void uselessUses() {
        LatticeSheet x = new LatticeSheet(4, 5);
        Check.formula(x, 0, 101, 0, 200);
        Check.formula(x, 1, 0, 102, 501);
        Check.formula(x, 2, 5, 103, 300);
        depends("useless uses", x, "0111", "0011", "0001", "0000");
        Check.formula(x, 3, 0, 100, 200, 103, 103, 400, 300);
        depends("useless cycle", x, "1111", "1111", "1111", "1111");
        Check.leaders("useless cycle", x, 0, 0, 0, 0);
    }

    private static void followsTheFormulas() {
        LatticeSheet x = new LatticeSheet(3, 5);
        Check.formula(x, 0, 101, 102, 400);
        Check.formula(x, 1, 100);
        depends("before", x, "111", "111", "000");
        Check.leaders("before", x, 0, 0, 2);
        Check.order("before", x, 2, 0, 1);
        // The tokens left behind the one token of the constant no longer count.
        x.setInput(0, 3);
        depends("set to a constant", x, "000", "100", "000");
        Check.leaders("set to a constant", x, 0, 1, 2);
        Check.order("set to a constant", x, 0, 2, 1);
        // A VALUE or GUARD argument that is also a cell's number is no use of that cell.
        Check.formula(x, 1, 2, 1, 501);
        depends("no uses", x, "000", "000", "000");
        Check.order("no uses", x, 0, 1, 2);
    }

    private static void everyRing() {
        for (int n = 2; n <= 12; n++) {
            for (int size = 1; size <= n; size++) {
                LatticeSheet x = new LatticeSheet(n, 5);
                int first = n - size;
                for (int c = first; c < n; c++) {
                    Check.formula(x, c, 100 + (c + 1 < n ? c + 1 : first));
                }
                for (int c = 0; c < n; c++) {
                    Check.due("ring: leader", x.leader(c), c < first ? c : first);
                    Check.due("ring: orderAt", x.orderAt(c), c);
                    for (int d = 0; d < n; d++) {
                        Check.due("ring: depends", x.depends(c, d), c >= first && d >= first);
                    }
                }
            }
        }
    }

    private static void componentsAndRanks() {
        LatticeSheet x = new LatticeSheet(8, 5);
        // Components {1, 6} and {2, 5}; 2 and 5 rest on 1 and 6, which rest on 7.
        Check.formula(x, 1, 106, 107, 300);
        Check.formula(x, 6, 101);
        Check.formula(x, 2, 105);
        Check.formula(x, 5, 102, 106, 300);
        Check.formula(x, 0, 104);
        Check.leaders("two components", x, 0, 1, 2, 3, 4, 2, 1, 7);
        // Ranks: 0 has 1, 1 and 6 have 1, 2 and 5 have 3, the rest have 0.
        Check.order("two components", x, 3, 4, 7, 0, 1, 6, 2, 5);
        Check.formula(x, 7, 105);
        Check.leaders("one component", x, 0, 1, 1, 3, 4, 1, 1, 1);
        Check.order("one component", x, 1, 2, 5, 6, 7, 3, 4, 0);
    }

    /** Among equal ranks the leader comes before the cell number, so components stay whole. */
    private static void equalRanks() {
        LatticeSheet x = new LatticeSheet(6, 5);
        Check.formula(x, 0, 105);
        Check.formula(x, 5, 100);
        Check.formula(x, 1, 103);
        Check.formula(x, 3, 101);
        Check.leaders("crossed pairs", x, 0, 1, 2, 1, 4, 0);
        Check.order("crossed pairs", x, 0, 5, 1, 3, 2, 4);
    }

    /** The rank counts every cell below, not steps, and not the cells of the own component. */
    private static void rankCountsCells() {
        LatticeSheet x = new LatticeSheet(7, 5);
        Check.formula(x, 0, 104, 105, 106, 300, 300);
        Check.formula(x, 2, 101);
        Check.formula(x, 1, 103);
        // 0 has rank 3 by one step, 2 has rank 2 by two steps.
        Check.order("cells, not steps", x, 3, 4, 5, 6, 1, 2, 0);
        Check.formula(x, 3, 102);
        // 1, 2 and 3 are one component of rank 0 now.
        Check.order("own component", x, 1, 2, 3, 4, 5, 6, 0);
        Check.formula(x, 4, 101);
        // 0 now has rank 6 and 4 has rank 3; a cell reached by two ways counts once.
        Check.formula(x, 5, 101, 104, 300);
        Check.order("reached by two ways", x, 1, 2, 3, 6, 4, 5, 0);
    }

    private static void unmovedByDraftAndRefusal() {
        LatticeSheet x = new LatticeSheet(3, 5);
        Check.formula(x, 0, 102);
        Check.draft(x, 100, 101, 300);
        x.commit(3);
        x.setInput(0, 6);
        depends("draft and refusals", x, "001", "000", "000");
        Check.leaders("draft and refusals", x, 0, 1, 2);
        Check.order("draft and refusals", x, 1, 2, 0);
        x.commit(2);
        depends("committed", x, "111", "000", "111");
        Check.leaders("committed", x, 0, 1, 0);
        Check.order("committed", x, 1, 0, 2);
    }

    private static void outside() {
        for (int n = 2; n <= 12; n++) {
            LatticeSheet x = new LatticeSheet(n, 5);
            for (int c = 0; c < n; c++) {
                Check.formula(x, c, 100 + (c + 1) % n);
            }
            for (int no : new int[] {LOW, -99, -32, -2, -1, n, n + 1, 12, 13, 32, 33, HIGH}) {
                Check.due("leader(" + no + ")", x.leader(no), LatticeSheet.NONE);
                Check.due("orderAt(" + no + ")", x.orderAt(no), LatticeSheet.NONE);
                Check.due("depends(" + no + ", itself)", x.depends(no, no), false);
                for (int c = 0; c < n; c++) {
                    Check.due("depends(" + no + ", " + c + ")", x.depends(no, c), false);
                    Check.due("depends(" + c + ", " + no + ")", x.depends(c, no), false);
                }
            }
        }
    }
}
