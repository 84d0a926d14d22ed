/** Promise 10, with the terms 'component' and 'leader'. */
public final class LeaderTest {
    public static void main(String[] args) {
        component();
        oneWayIsNotEnough();
        leastNumber();
        alone();
        presentFormulas();
        outside();
        changesNothing();
        Check.end();
    }

    private static void component() {
        Check.sentence("The component of c is c itself and every cell d such that c depends on d "
            + "and d depends on c.");
        LatticeSheet x = new LatticeSheet(8, 5);
        // Components {1, 6} and {2, 5}; the second rests on the first, which rests on 7.
        Check.formula(x, 1, 106, 107, 300);
        Check.formula(x, 6, 101);
        Check.formula(x, 2, 105);
        Check.formula(x, 5, 102, 106, 300);
        Check.formula(x, 0, 104);
        Check.leaders("two components", x, 0, 1, 2, 3, 4, 2, 1, 7);
        Check.formula(x, 7, 105);
        Check.leaders("one component", x, 0, 1, 1, 3, 4, 1, 1, 1);
        // Two loops that share a cell are one component.
        LatticeSheet y = new LatticeSheet(5, 5);
        Check.formula(y, 3, 101, 104, 300);
        Check.formula(y, 1, 103);
        Check.formula(y, 4, 103);
        Check.leaders("two loops through 3", y, 0, 1, 2, 1, 1);
    }

    private static void oneWayIsNotEnough() {
        Check.sentence("... c depends on d and d depends on c: one of the two alone is not enough.");
        LatticeSheet x = new LatticeSheet(4, 5);
        Check.formula(x, 3, 100);
        Check.formula(x, 2, 103, 100, 300);
        Check.leaders("higher on lower", x, 0, 1, 2, 3);
        LatticeSheet y = new LatticeSheet(4, 5);
        Check.formula(y, 0, 103);
        Check.formula(y, 1, 100, 102, 300);
        Check.leaders("lower on higher", y, 0, 1, 2, 3);
        // Also if both lie on cycles, each on one of its own.
        Check.formula(y, 3, 103);
        Check.formula(y, 0, 100, 103, 300);
        Check.leaders("two cycles of one", y, 0, 1, 2, 3);
    }

    private static void leastNumber() {
        Check.sentence("The leader of c is the least cell number in its component.");
        for (int n = 2; n <= 12; n++) {
            for (int first = 0; first < n; first++) {
                LatticeSheet x = new LatticeSheet(n, 5);
                for (int c = first; c < n; c++) {
                    Check.formula(x, c, 100 + (c > first ? c - 1 : n - 1));
                }
                for (int c = 0; c < n; c++) {
                    Check.due("ring from " + first + ": leader(" + c + ")",
                        x.leader(c), c < first ? c : first);
                }
            }
        }
        // The least number counts, not the first one that was edited or the nearest one.
        LatticeSheet x = new LatticeSheet(6, 5);
        Check.formula(x, 5, 102);
        Check.formula(x, 2, 104);
        Check.formula(x, 4, 105);
        Check.leaders("ring 5, 2, 4", x, 0, 1, 2, 3, 2, 2);
        Check.formula(x, 4, 101);
        Check.formula(x, 1, 105);
        Check.leaders("ring 5, 2, 4, 1", x, 0, 1, 1, 3, 1, 1);
    }

    private static void alone() {
        Check.sentence("A cell that is alone in its component is its own leader, "
            + "whether or not it uses itself.");
        for (int n = 2; n <= 12; n++) {
            LatticeSheet x = new LatticeSheet(n, 5);
            for (int c = 0; c < n; c++) {
                Check.due("uses nothing: leader(" + c + ")", x.leader(c), c);
            }
            for (int c = 0; c < n; c++) {
                Check.formula(x, c, 100 + c);
                Check.due("uses itself: leader(" + c + ")", x.leader(c), c);
            }
            for (int c = 1; c < n; c++) {
                Check.formula(x, c, 100 + c, 100 + c - 1, 300);
            }
            for (int c = 0; c < n; c++) {
                Check.due("uses itself and the one before: leader(" + c + ")", x.leader(c), c);
            }
        }
    }

    private static void presentFormulas() {
        Check.sentence("leader(cell) answers the leader of cell, for the present formulas.");
        LatticeSheet x = new LatticeSheet(3, 5);
        Check.formula(x, 0, 102);
        Check.draft(x, 100, 101, 300);
        x.commit(3);
        x.setInput(0, 6);
        Check.leaders("draft and refusals", x, 0, 1, 2);
        x.commit(2);
        Check.leaders("loop closed", x, 0, 1, 0);
        Check.input(x, 0, 3);
        Check.leaders("loop cut", x, 0, 1, 2);
        Check.formula(x, 1, 102);
        Check.formula(x, 2, 101, 0, 200);
        Check.leaders("another loop", x, 0, 1, 1);
    }

    private static void outside() {
        Check.sentence("leader(cell) answers ... if cell is in 0..N-1; otherwise NONE.");
        for (int n = 2; n <= 12; n++) {
            LatticeSheet x = new LatticeSheet(n, 5);
            Check.formula(x, n - 1, 100);
            Check.formula(x, 0, 100 + n - 1);
            Check.draft(x, 100);
            Check.due("leader(0)", x.leader(0), 0);
            Check.due("leader(" + (n - 1) + ")", x.leader(n - 1), 0);
            Check.due("leader(-1)", x.leader(-1), LatticeSheet.NONE);
            Check.due("leader(" + n + ")", x.leader(n), LatticeSheet.NONE);
            for (int cell : Check.outside(0, n - 1)) {
                Check.due("leader(" + cell + ")", x.leader(cell), LatticeSheet.NONE);
            }
        }
    }

    private static void changesNothing() {
        Check.sentence("The call changes nothing.");
        for (int cell : Check.any()) {
            Check.changesNothing("leader(" + cell + ")", x -> x.leader(cell));
        }
    }
}
