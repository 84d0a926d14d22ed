/** A small sheet of cells whose circular formulas always show their least solution. */
public final class LatticeSheet {
    public static final int MAX_TOKENS = 8;

    public static final int VALUE = 0;
    public static final int REF = 1;
    public static final int MIN = 2;
    public static final int MAX = 3;
    public static final int SUM = 4;
    public static final int GUARD = 5;

    public static final int OK = 0;
    public static final int BAD_KIND = 1;
    public static final int FULL = 2;
    public static final int BAD_ARG = 3;
    public static final int SHORT = 4;
    public static final int BAD_CELL = 5;
    public static final int MALFORMED = 6;

    public static final int DRAFT = -1;
    public static final int NONE = -99;

    private static final int LEAST_CELLS = 2;
    private static final int MOST_CELLS = 12;
    private static final int LEAST_TOP = 1;
    private static final int MOST_TOP = 15;

    // The draft is kept as one more row behind the formulas, so that both read back the same way.
    private static final int DRAFT_ROW = MOST_CELLS;
    private static final int ROWS = MOST_CELLS + 1;
    private static final int ALL_TOKENS = ROWS * MAX_TOKENS;

    // A token is kept as KIND_UNIT * kind + argument, which is how it is read back.
    private static final int KIND_UNIT = 100;

    // Values only rise while the least solution is sought, and every round but the last
    // raises one of them, so no more rounds than this can change anything.
    private static final int MOST_ROUNDS = MOST_CELLS * MOST_TOP;

    private final int cellTotal;
    private final int top;

    private final int[] tokens = new int[ALL_TOKENS];
    private final int[] lengths = new int[ROWS];
    private int draftDepth = 0;

    private final int[] stack = new int[MAX_TOKENS];
    private final int[] shown = new int[MOST_CELLS];
    private final int[] oldShown = new int[MOST_CELLS];
    private final int[] deltas = new int[MOST_CELLS];
    private int editedCell = NONE;

    // Bit d of reach[c] tells that c depends on d.
    private final int[] reach = new int[MOST_CELLS];
    private final int[] leaders = new int[MOST_CELLS];
    private final int[] sortKeys = new int[MOST_CELLS];
    private final int[] order = new int[MOST_CELLS];

    public LatticeSheet(int cells, int top) {
        this.cellTotal = clamp(cells, LEAST_CELLS, MOST_CELLS);
        this.top = clamp(top, LEAST_TOP, MOST_TOP);
        for (int c = 0; c < MOST_CELLS; c++) {
            writeConstant(c, 0);
        }
        findStructure();
    }

    public int push(int kind, int arg) {
        if (kind < VALUE || kind > GUARD) {
            return BAD_KIND;
        }
        int size = lengths[DRAFT_ROW];
        if (size >= MAX_TOKENS) {
            return FULL;
        }
        if (!isArgument(kind, arg)) {
            return BAD_ARG;
        }
        boolean operand = isOperand(kind);
        if (!operand && draftDepth < 2) {
            return SHORT;
        }
        boolean plain = kind == MIN || kind == MAX || kind == SUM;
        int kept = plain ? 0 : arg;
        tokens[DRAFT_ROW * MAX_TOKENS + size] = KIND_UNIT * kind + kept;
        lengths[DRAFT_ROW] = size + 1;
        draftDepth += operand ? 1 : -1;
        return OK;
    }

    public void dropDraft() {
        lengths[DRAFT_ROW] = 0;
        draftDepth = 0;
    }

    public int commit(int cell) {
        if (!isCell(cell)) {
            return BAD_CELL;
        }
        if (draftDepth != 1) {
            return MALFORMED;
        }
        writeDraft(cell);
        dropDraft();
        settle(cell);
        return OK;
    }

    public int setInput(int cell, int v) {
        if (!isCell(cell)) {
            return BAD_CELL;
        }
        if (!isArgument(VALUE, v)) {
            return BAD_ARG;
        }
        writeConstant(cell, v);
        settle(cell);
        return OK;
    }

    public int value(int cell) {
        return isCell(cell) ? shown[cell] : NONE;
    }

    public int delta(int cell) {
        return isCell(cell) ? deltas[cell] : NONE;
    }

    public int edited() {
        return editedCell;
    }

    public boolean depends(int cell, int other) {
        return isCell(cell) && isCell(other) && reaches(cell, other);
    }

    public int leader(int cell) {
        return isCell(cell) ? leaders[cell] : NONE;
    }

    public int orderAt(int place) {
        // Places run over the same numbers as cells.
        return isCell(place) ? order[place] : NONE;
    }

    public int length(int cell) {
        int row = rowOf(cell);
        return row == NONE ? NONE : lengths[row];
    }

    public int tokenAt(int cell, int i) {
        int row = rowOf(cell);
        if (row == NONE || i < 0 || i >= lengths[row]) {
            return NONE;
        }
        return tokens[row * MAX_TOKENS + i];
    }

    public int cellCount() {
        return cellTotal;
    }

    public int topValue() {
        return top;
    }

    private static int clamp(int number, int least, int most) {
        if (number < least) {
            return least;
        }
        return number > most ? most : number;
    }

    private boolean isCell(int cell) {
        return cell >= 0 && cell < cellTotal;
    }

    private static boolean isOperand(int kind) {
        return kind == VALUE || kind == REF;
    }

    private boolean isArgument(int kind, int arg) {
        switch (kind) {
            case VALUE:
                return arg >= 0 && arg <= top;
            case REF:
                return isCell(arg);
            case GUARD:
                return arg >= 1 && arg <= top;
            default:
                return true;
        }
    }

    private int rowOf(int cell) {
        if (cell == DRAFT) {
            return DRAFT_ROW;
        }
        return isCell(cell) ? cell : NONE;
    }

    private void writeConstant(int cell, int v) {
        tokens[cell * MAX_TOKENS] = KIND_UNIT * VALUE + v;
        lengths[cell] = 1;
    }

    private void writeDraft(int cell) {
        int size = lengths[DRAFT_ROW];
        for (int i = 0; i < size; i++) {
            tokens[cell * MAX_TOKENS + i] = tokens[DRAFT_ROW * MAX_TOKENS + i];
        }
        lengths[cell] = size;
    }

    /** Brings everything shown in line after the formula of a cell was replaced. */
    private void settle(int cell) {
        for (int c = 0; c < cellTotal; c++) {
            oldShown[c] = shown[c];
        }
        findValues();
        for (int c = 0; c < cellTotal; c++) {
            deltas[c] = shown[c] - oldShown[c];
        }
        findStructure();
        editedCell = cell;
    }

    private void findValues() {
        // Starting below every solution is what keeps a loop from supporting itself.
        for (int c = 0; c < cellTotal; c++) {
            shown[c] = 0;
        }
        boolean moved = true;
        for (int round = 0; moved && round < MOST_ROUNDS; round++) {
            moved = false;
            for (int c = 0; c < cellTotal; c++) {
                int result = evaluate(c);
                moved = moved || result != shown[c];
                shown[c] = result;
            }
        }
    }

    // push and commit let only formulas through that never run short and leave one element.
    // The stack's index is looked at all the same, so that its bounds show in these lines.
    private int evaluate(int cell) {
        int size = 0;
        int start = cell * MAX_TOKENS;
        int end = start + lengths[cell];
        for (int i = start; i < end; i++) {
            int kind = tokens[i] / KIND_UNIT;
            int arg = tokens[i] % KIND_UNIT;
            boolean operand = isOperand(kind);
            if (operand && size < MAX_TOKENS) {
                stack[size] = kind == REF ? value(arg) : arg;
                size++;
            } else if (!operand && size >= 2) {
                size--;
                stack[size - 1] = combine(kind, arg, stack[size - 1], stack[size]);
            }
        }
        return stack[0];
    }

    private int combine(int kind, int arg, int x, int y) {
        switch (kind) {
            case MIN:
                return x < y ? x : y;
            case MAX:
                return x > y ? x : y;
            case SUM:
                return x + y > top ? top : x + y;
            default:
                return x >= arg ? y : 0;
        }
    }

    private void findStructure() {
        findReach();
        for (int c = 0; c < cellTotal; c++) {
            leaders[c] = findLeader(c);
        }
        findOrder();
    }

    private void findReach() {
        for (int c = 0; c < cellTotal; c++) {
            reach[c] = findUses(c);
        }
        for (int via = 0; via < cellTotal; via++) {
            for (int c = 0; c < cellTotal; c++) {
                if (reaches(c, via)) {
                    reach[c] |= reach[via];
                }
            }
        }
    }

    private int findUses(int cell) {
        int uses = 0;
        int start = cell * MAX_TOKENS;
        int end = start + lengths[cell];
        for (int i = start; i < end; i++) {
            if (tokens[i] / KIND_UNIT == REF) {
                uses |= 1 << (tokens[i] % KIND_UNIT);
            }
        }
        return uses;
    }

    private boolean reaches(int cell, int other) {
        return ((reach[cell] >> other) & 1) == 1;
    }

    private int findLeader(int cell) {
        for (int d = 0; d < cell; d++) {
            if (reaches(cell, d) && reaches(d, cell)) {
                return d;
            }
        }
        return cell;
    }

    private int findRank(int cell) {
        int rank = 0;
        for (int d = 0; d < cellTotal; d++) {
            if (reaches(cell, d) && !reaches(d, cell)) {
                rank++;
            }
        }
        return rank;
    }

    private void findOrder() {
        for (int c = 0; c < cellTotal; c++) {
            int rank = findRank(c);
            sortKeys[c] = (rank * MOST_CELLS + leaders[c]) * MOST_CELLS + c;
        }
        for (int c = 0; c < cellTotal; c++) {
            // No two keys are equal, so each cell gets a place of its own.
            int place = 0;
            for (int d = 0; d < cellTotal; d++) {
                if (sortKeys[d] < sortKeys[c]) {
                    place++;
                }
            }
            order[place] = c;
        }
    }
}
