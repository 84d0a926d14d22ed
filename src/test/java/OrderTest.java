/** Promise 11, with the terms 'rank' and 'order'. */
public final class OrderTest {
    public static void main(String[] args) {
        rank();
        rankWithoutOwnComponent();
        risingRank();
        equalRanks();
        equalRanksAndLeaders();
        presentFormulas();
        outside();
        eachCellOnce();
        componentsTogether();
        changesNothing();
        Check.end();
    }

    private static void rank() {
        Check.sentence("The rank of c is the number of cells d other than c such that c depends on d "
            + "and d does not depend on c.");
        LatticeSheet x = new LatticeSheet(7, 5);
        Check.formula(x, 0, 104, 105, 106, 300, 300);
        Check.formula(x, 2, 101);
        Check.formula(x, 1, 103);
        // Cells count, not steps: 0 has rank 3 by one step, 2 has rank 2 by two steps.
        Check.order("cells, not steps", x, 3, 4, 5, 6, 1, 2, 0);
        Check.formula(x, 4, 101);
        Check.formula(x, 5, 101, 104, 300);
        // A cell that is reached by two ways counts once: 4 has rank 2, 5 has rank 3.
        Check.order("reached by two ways", x, 3, 6, 1, 2, 4, 5, 0);
        // A token that stands twice is one use: 6 has rank 1 and stays before 2 and 4.
        Check.formula(x, 6, 103, 103, 103, 103, 400, 400, 400);
        Check.order("used four times", x, 3, 1, 6, 2, 4, 5, 0);
    }

    private static void rankWithoutOwnComponent() {
        Check.sentence("... cells d other than c such that ... d does not depend on c.");
        LatticeSheet x = new LatticeSheet(5, 5);
        // A cell that uses itself does not count itself, so both have rank 0.
        Check.formula(x, 0, 100);
        Check.order("uses itself", x, 0, 1, 2, 3, 4);
        Check.formula(x, 3, 103);
        Check.order("uses itself", x, 0, 1, 2, 3, 4);
        // The cells of the own component do not count: 0, 1 and 2 have rank 0, and 3 has rank 1.
        Check.formula(x, 0, 101);
        Check.formula(x, 1, 102);
        Check.formula(x, 2, 100);
        Check.formula(x, 3, 104);
        Check.order("a ring of three", x, 0, 1, 2, 4, 3);
        // Resting on one cell of a component is resting on all of them: 4 has rank 3, 3 has 4.
        Check.formula(x, 4, 101);
        Check.order("on the ring", x, 0, 1, 2, 4, 3);
        Check.formula(x, 3, 100);
        Check.order("both on the ring", x, 0, 1, 2, 3, 4);
    }

    private static void risingRank() {
        Check.sentence("The order of the sheet lists all N cells by rising rank.");
        for (int n = 2; n <= 12; n++) {
            LatticeSheet down = new LatticeSheet(n, 5);
            LatticeSheet up = new LatticeSheet(n, 5);
            for (int c = 1; c < n; c++) {
                Check.formula(down, c - 1, 100 + c);
                Check.formula(up, c, 100 + c - 1);
            }
            for (int place = 0; place < n; place++) {
                Check.due("each on the next: orderAt(" + place + ")",
                    down.orderAt(place), n - 1 - place);
                Check.due("each on the one before: orderAt(" + place + ")",
                    up.orderAt(place), place);
            }
        }
        // The rank comes before the leader: the one cell that uses another comes last.
        for (int n = 2; n <= 12; n++) {
            for (int c = 0; c < n; c++) {
                oneUse(n, c);
            }
        }
        LatticeSheet x = new LatticeSheet(4, 5);
        Check.formula(x, 0, 101, 102, 400);
        Check.formula(x, 1, 103);
        Check.order("rank before leader", x, 2, 3, 1, 0);
    }

    private static void oneUse(int n, int user) {
        for (int used = 0; used < n; used++) {
            LatticeSheet x = new LatticeSheet(n, 5);
            Check.formula(x, user, 100 + used);
            for (int place = 0; place < n; place++) {
                int later = place < user ? place : place < n - 1 ? place + 1 : user;
                int want = used == user ? place : later;
                Check.due(user + " on " + used + ": orderAt(" + place + ")", x.orderAt(place), want);
            }
        }
    }

    private static void equalRanks() {
        Check.sentence("... among equal ranks by rising leader.");
        LatticeSheet x = new LatticeSheet(6, 5);
        Check.formula(x, 0, 105);
        Check.formula(x, 5, 100);
        Check.formula(x, 1, 103);
        Check.formula(x, 3, 101);
        Check.leaders("crossed pairs", x, 0, 1, 2, 1, 4, 0);
        Check.order("crossed pairs", x, 0, 5, 1, 3, 2, 4);
        // The same with a rank of 1, on cell 2.
        Check.formula(x, 0, 105, 102, 300);
        Check.formula(x, 3, 101, 102, 300);
        Check.formula(x, 4, 102);
        Check.order("crossed pairs on 2", x, 2, 0, 5, 1, 3, 4);
    }

    private static void equalRanksAndLeaders() {
        Check.sentence("... among equal ranks and leaders by rising cell number.");
        for (int n = 2; n <= 12; n++) {
            for (int step = 1; step < n; step++) {
                LatticeSheet x = new LatticeSheet(n, 5);
                for (int c = 0; c < n; c++) {
                    Check.formula(x, c, 100 + (c + step) % n);
                }
                if (oneRing(n, step)) {
                    for (int c = 0; c < n; c++) {
                        Check.due("ring by " + step + ": orderAt(" + c + ")", x.orderAt(c), c);
                    }
                }
            }
        }
        LatticeSheet x = new LatticeSheet(6, 5);
        Check.formula(x, 5, 102);
        Check.formula(x, 2, 104);
        Check.formula(x, 4, 105, 103, 300);
        Check.order("ring 5, 2, 4 on 3", x, 0, 1, 3, 2, 4, 5);
    }

    private static boolean oneRing(int n, int step) {
        int steps = 1;
        for (int c = step % n; c != 0; c = (c + step) % n) {
            steps++;
        }
        return steps == n;
    }

    private static void presentFormulas() {
        Check.sentence("orderAt(place) answers the cell at place of the order of the sheet, "
            + "for the present formulas.");
        LatticeSheet x = new LatticeSheet(3, 5);
        Check.order("new", x, 0, 1, 2);
        Check.formula(x, 0, 102);
        Check.order("0 on 2", x, 1, 2, 0);
        Check.draft(x, 100, 101, 300);
        x.commit(3);
        x.setInput(0, 6);
        Check.order("draft and refusals", x, 1, 2, 0);
        x.commit(2);
        Check.order("loop of 0 and 2 on 1", x, 1, 0, 2);
        Check.input(x, 2, 3);
        Check.order("loop cut", x, 1, 2, 0);
        Check.input(x, 0, 3);
        Check.order("no use left", x, 0, 1, 2);
    }

    private static void outside() {
        Check.sentence("It answers NONE if place is not in 0..N-1.");
        for (int n = 2; n <= 12; n++) {
            LatticeSheet x = new LatticeSheet(n, 5);
            Check.formula(x, 0, 100 + n - 1);
            Check.draft(x, 100);
            Check.due("orderAt(-1)", x.orderAt(-1), LatticeSheet.NONE);
            Check.due("orderAt(" + n + ")", x.orderAt(n), LatticeSheet.NONE);
            for (int place : Check.outside(0, n - 1)) {
                Check.due("orderAt(" + place + ")", x.orderAt(place), LatticeSheet.NONE);
            }
            Check.due("orderAt(0)", x.orderAt(0), 1);
            Check.due("orderAt(" + (n - 1) + ")", x.orderAt(n - 1), 0);
        }
    }

    private static void eachCellOnce() {
        Check.sentence("Over all places each cell occurs exactly once.");
        for (int n = 2; n <= 12; n++) {
            LatticeSheet x = new LatticeSheet(n, 5);
            for (int i = 0; i < 40; i++) {
                int c = i * 7 % n;
                Check.formula(x, c, 100 + (c + i) % n, 100 + i * 5 % n, 300);
                int seen = 0;
                for (int place = 0; place < n; place++) {
                    seen |= 1 << x.orderAt(place);
                }
                Check.due("cells seen, as bits", seen, (1 << n) - 1);
            }
        }
    }

    private static void componentsTogether() {
        Check.sentence("The cells of one component stand next to each other, by rising cell number.");
        LatticeSheet x = new LatticeSheet(8, 5);
        // Components {1, 6} and {2, 5}; the second rests on the first, which rests on 7.
        Check.formula(x, 1, 106, 107, 300);
        Check.formula(x, 6, 101);
        Check.formula(x, 2, 105);
        Check.formula(x, 5, 102, 106, 300);
        Check.formula(x, 0, 104);
        // Ranks: 0 has 1, 1 and 6 have 1, 2 and 5 have 3, the rest have 0.
        Check.order("two components", x, 3, 4, 7, 0, 1, 6, 2, 5);
        Check.formula(x, 7, 105);
        Check.order("one component", x, 1, 2, 5, 6, 7, 3, 4, 0);
    }

    private static void changesNothing() {
        Check.sentence("The call changes nothing.");
        for (int place : Check.any()) {
            Check.changesNothing("orderAt(" + place + ")", x -> x.orderAt(place));
        }
    }
}
