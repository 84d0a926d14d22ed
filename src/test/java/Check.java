/** What the tests share: counting wrong answers, and short ways to fill a sheet. */
final class Check {
    private static int wrong = 0;
    private static int asked = 0;

    private Check() {
    }

    static void due(String call, long got, long want) {
        asked++;
        if (got != want) {
            wrong++;
            System.out.println(call + " answered " + got + ", due is " + want);
        }
    }

    static void due(String call, boolean got, boolean want) {
        due(call, got ? 1 : 0, want ? 1 : 0);
    }

    /** Pushes tokens given as 100 * kind + argument; each must be accepted. */
    static void draft(LatticeSheet x, int... tokens) {
        for (int token : tokens) {
            due("push of token " + token, x.push(token / 100, token % 100), LatticeSheet.OK);
        }
    }

    static void formula(LatticeSheet x, int cell, int... tokens) {
        draft(x, tokens);
        due("commit(" + cell + ")", x.commit(cell), LatticeSheet.OK);
    }

    static void values(String when, LatticeSheet x, int... want) {
        for (int c = 0; c < want.length; c++) {
            due(when + ": value(" + c + ")", x.value(c), want[c]);
        }
    }

    static void deltas(String when, LatticeSheet x, int... want) {
        for (int c = 0; c < want.length; c++) {
            due(when + ": delta(" + c + ")", x.delta(c), want[c]);
        }
    }

    static void leaders(String when, LatticeSheet x, int... want) {
        for (int c = 0; c < want.length; c++) {
            due(when + ": leader(" + c + ")", x.leader(c), want[c]);
        }
    }

    static void order(String when, LatticeSheet x, int... want) {
        for (int p = 0; p < want.length; p++) {
            due(when + ": orderAt(" + p + ")", x.orderAt(p), want[p]);
        }
    }

    /** The tokens of a cell's formula, or of the draft. */
    static void reads(String when, LatticeSheet x, int cell, int... want) {
        due(when + ": length(" + cell + ")", x.length(cell), want.length);
        for (int i = 0; i < want.length; i++) {
            due(when + ": tokenAt(" + cell + ", " + i + ")", x.tokenAt(cell, i), want[i]);
        }
        due(when + ": token behind the last of " + cell,
            x.tokenAt(cell, want.length), LatticeSheet.NONE);
    }

    /** Everything that can be asked of a sheet, to see whether a call changed any of it. */
    static String all(LatticeSheet x) {
        StringBuilder s = new StringBuilder();
        s.append(x.cellCount()).append(' ').append(x.topValue()).append(' ').append(x.edited());
        for (int c = -2; c <= 13; c++) {
            s.append('\n').append(c).append(": ").append(x.value(c));
            s.append(' ').append(x.delta(c)).append(' ').append(x.leader(c));
            s.append(' ').append(x.orderAt(c)).append(' ').append(x.length(c)).append(" [");
            for (int i = -1; i <= 9; i++) {
                s.append(' ').append(x.tokenAt(c, i));
            }
            s.append(" ] ");
            for (int d = -2; d <= 13; d++) {
                s.append(x.depends(c, d) ? '1' : '0');
            }
        }
        return s.toString();
    }

    static void same(String call, String before, LatticeSheet x) {
        asked++;
        String after = all(x);
        if (!after.equals(before)) {
            wrong++;
            System.out.println(call + " changed the sheet from\n" + before + "\nto\n" + after);
        }
    }

    /** Ends the test; a test that asked nothing has not shown anything, so it fails too. */
    static void end() {
        System.out.println(asked + " answers, " + wrong + " of them not as due");
        if (wrong != 0 || asked == 0) {
            System.exit(1);
        }
    }
}
