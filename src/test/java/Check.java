import java.util.ArrayList;
import java.util.List;
import java.util.Set;
import java.util.TreeSet;
import java.util.function.Consumer;
import java.util.function.IntSupplier;
import java.util.function.ToIntFunction;

/** What the tests share: counting wrong answers, and short ways to fill and compare sheets. */
final class Check {
    static final int LOW = Integer.MIN_VALUE;
    static final int HIGH = Integer.MAX_VALUE;

    private static int wrong = 0;
    private static int asked = 0;
    private static int sentences = 0;
    private static String sentence = "";
    private static int askedBefore = 0;
    private static boolean told = false;

    private Check() {
    }

    /** The sentence of the document that the answers from here on belong to. */
    static void sentence(String words) {
        endSentence();
        sentences++;
        sentence = words;
        askedBefore = asked;
        told = false;
    }

    /** A sentence under which nothing was asked has no test, so that is a fault as well. */
    private static void endSentence() {
        if (sentences > 0 && asked == askedBefore) {
            fault("nothing was asked");
        }
    }

    private static void fault(String words) {
        wrong++;
        if (!told && !sentence.isEmpty()) {
            System.out.println("\"" + sentence + "\"");
            told = true;
        }
        System.out.println("  " + words);
    }

    static void due(String call, long got, long want) {
        asked++;
        if (got != want) {
            fault(call + " answered " + got + ", due is " + want);
        }
    }

    static void due(String call, boolean got, boolean want) {
        due(call, got ? 1 : 0, want ? 1 : 0);
    }

    /** A call that must answer as told and change nothing. */
    static void refused(String call, LatticeSheet x, IntSupplier answer, int want) {
        String before = all(x);
        due(call, answer.getAsInt(), want);
        same("refused " + call, before, all(x));
    }

    /**
     * Ints outside low..high: those around it, and those that shifts, products or casts to a
     * smaller type could take for one inside.
     */
    static int[] outside(int low, int high) {
        Set<Integer> found = new TreeSet<>();
        for (int v : any()) {
            found.add(low + v);
            found.add(high + v);
        }
        for (int v : any()) {
            found.add(v);
        }
        found.removeIf(v -> v >= low && v <= high);
        return found.stream().mapToInt(v -> v).toArray();
    }

    /** Ints of every kind: small ones, powers of two, the least and the greatest. */
    static int[] any() {
        Set<Integer> found = new TreeSet<>(Set.of(LOW, LOW + 1, HIGH - 1, HIGH, -100, -99, 99, 100));
        for (int v = -3; v <= 17; v++) {
            found.add(v);
        }
        for (int bit = 5; bit < 32; bit++) {
            found.add(1 << bit);
            found.add(-(1 << bit));
        }
        return found.stream().mapToInt(v -> v).toArray();
    }

    /** Pushes tokens given as 100 * kind + argument; each must be accepted. */
    static void draft(LatticeSheet x, int... tokens) {
        for (int token : tokens) {
            due("push of token " + token, x.push(token / 100, token % 100), LatticeSheet.OK);
        }
    }

    static void formula(LatticeSheet x, int cell, int... tokens) {
        draft(x, tokens);
        due("commit(" + cell + ")", x.commit(cell), LatticeSheet.OK);
    }

    static void input(LatticeSheet x, int cell, int v) {
        due("setInput(" + cell + ", " + v + ")", x.setInput(cell, v), LatticeSheet.OK);
    }

    /** A sheet of 4 cells up to 9, with a cycle, values, deltas and an edited cell to be spoilt. */
    static LatticeSheet filled() {
        LatticeSheet x = new LatticeSheet(4, 9);
        formula(x, 1, 102, 100, 300);
        formula(x, 2, 101);
        formula(x, 3, 103, 1, 400, 102, 200);
        input(x, 0, 6);
        return x;
    }

    static void values(String when, LatticeSheet x, int... want) {
        for (int c = 0; c < want.length; c++) {
            due(when + ": value(" + c + ")", x.value(c), want[c]);
        }
    }

    static void deltas(String when, LatticeSheet x, int... want) {
        for (int c = 0; c < want.length; c++) {
            due(when + ": delta(" + c + ")", x.delta(c), want[c]);
        }
    }

    /** Row c tells by '1' at place d that c depends on d. */
    static void depends(String when, LatticeSheet x, String... rows) {
        for (int c = 0; c < rows.length; c++) {
            for (int d = 0; d < rows.length; d++) {
                due(when + ": depends(" + c + ", " + d + ")",
                    x.depends(c, d), rows[c].charAt(d) == '1');
            }
        }
    }

    static void leaders(String when, LatticeSheet x, int... want) {
        for (int c = 0; c < want.length; c++) {
            due(when + ": leader(" + c + ")", x.leader(c), want[c]);
        }
    }

    static void order(String when, LatticeSheet x, int... want) {
        for (int p = 0; p < want.length; p++) {
            due(when + ": orderAt(" + p + ")", x.orderAt(p), want[p]);
        }
    }

    /** The tokens of a cell's formula, or of the draft, and nothing before or behind them. */
    static void reads(String when, LatticeSheet x, int cell, int... want) {
        due(when + ": length(" + cell + ")", x.length(cell), want.length);
        for (int i = -1; i <= LatticeSheet.MAX_TOKENS; i++) {
            boolean inside = i >= 0 && i < want.length;
            due(when + ": tokenAt(" + cell + ", " + i + ")",
                x.tokenAt(cell, i), inside ? want[i] : LatticeSheet.NONE);
        }
    }

    /** Everything that can be asked of a sheet beside the draft. */
    static String sheet(LatticeSheet x) {
        StringBuilder s = new StringBuilder();
        s.append(x.cellCount()).append(' ').append(x.topValue()).append(' ').append(x.edited());
        for (int c = 0; c < x.cellCount(); c++) {
            s.append('\n').append(c).append(": ").append(x.value(c));
            s.append(' ').append(x.delta(c)).append(' ').append(x.leader(c));
            s.append(' ').append(x.orderAt(c)).append(' ').append(list(x, c)).append(' ');
            for (int d = 0; d < x.cellCount(); d++) {
                s.append(x.depends(c, d) ? '1' : '0');
            }
        }
        return s.toString();
    }

    /** Everything that can be asked of a sheet. */
    static String all(LatticeSheet x) {
        return sheet(x) + "\ndraft: " + list(x, LatticeSheet.DRAFT);
    }

    private static String list(LatticeSheet x, int cell) {
        StringBuilder s = new StringBuilder();
        s.append(x.length(cell)).append(" [");
        for (int i = 0; i < x.length(cell); i++) {
            s.append(' ').append(x.tokenAt(cell, i));
        }
        return s.append(" ]").toString();
    }

    static void same(String call, String before, String after) {
        asked++;
        if (!after.equals(before)) {
            fault(call + " changed the sheet from\n" + before + "\nto\n" + after);
        }
    }

    /**
     * Two like sheets, of which one is asked: whatever is looked at next must be the same on both.
     * Only one thing is looked at on each pair, since looking is asking too, and a fault in it
     * would otherwise strike both sheets alike.
     */
    static void changesNothing(String call, Consumer<LatticeSheet> question) {
        int[][] drafts = {{}, {7}, {1, 2}, {1, 2, 3, 4, 5, 6, 7, 8}};
        List<ToIntFunction<LatticeSheet>> looks = looks();
        for (int[] tokens : drafts) {
            for (int i = 0; i < looks.size(); i++) {
                LatticeSheet x = filled();
                LatticeSheet y = filled();
                draft(x, tokens);
                draft(y, tokens);
                question.accept(x);
                int got = looks.get(i).applyAsInt(x);
                due("look " + i + " at a sheet after " + call, got, looks.get(i).applyAsInt(y));
            }
        }
    }

    /** Every way to see a part of the filled sheet, with one or two calls that tell the depth. */
    private static List<ToIntFunction<LatticeSheet>> looks() {
        List<ToIntFunction<LatticeSheet>> looks = new ArrayList<>();
        looks.add(x -> x.cellCount());
        looks.add(x -> x.topValue());
        looks.add(x -> x.edited());
        looks.add(x -> x.commit(0));
        looks.add(x -> 10 * x.push(LatticeSheet.SUM, 0) + x.commit(0));
        for (int cell = LatticeSheet.DRAFT; cell < 4; cell++) {
            int c = cell;
            looks.add(x -> x.value(c));
            looks.add(x -> x.delta(c));
            looks.add(x -> x.leader(c));
            looks.add(x -> x.orderAt(c));
            looks.add(x -> x.length(c));
            looks.add(x -> 1000 * x.setInput(3, 1) + x.delta(c));
            for (int i = 0; i < LatticeSheet.MAX_TOKENS; i++) {
                int place = i;
                looks.add(x -> x.tokenAt(c, place));
            }
            for (int d = 0; d < 4; d++) {
                int other = d;
                looks.add(x -> x.depends(c, other) ? 1 : 0);
            }
        }
        return looks;
    }

    /** Ends the test; a test that asked nothing has not shown anything, so it fails too. */
    static void end() {
        endSentence();
        String under = sentences == 0 ? "" : sentences + " sentences, ";
        System.out.println(under + asked + " answers, " + wrong + " of them not as due");
        if (wrong != 0 || asked == 0) {
            System.exit(1);
        }
    }
}
