/**
 * An exact solver for one small pure integer linear program.
 *
 * The box holds at most 8^4 = 4096 integer points, so solve() looks at every one of them. A point is
 * written as one whole number, its code, with x[0] in the highest bits: rising codes are then points
 * in lexicographic order, and the first of the best points found is the smallest of them.
 */
public final class GomoryBranch {
    public static final int UNSOLVED = 0;
    public static final int OPTIMAL = 1;
    public static final int INFEASIBLE = 2;

    public static final int LE = 1;
    public static final int GE = 2;
    public static final int EQ = 3;

    public static final int MAX_VARS = 4;
    public static final int MAX_ROWS = 8;
    public static final int MAX_COEF = 9;
    public static final int MAX_RHS = 99;
    public static final int MAX_BOUND = 7;

    private static final int MAX_CELLS = MAX_ROWS * MAX_VARS;

    // Three bits hold exactly the coordinates 0 .. MAX_BOUND.
    private static final int COORDINATE_BITS = 3;
    private static final int COORDINATE_MASK = MAX_BOUND;

    private final int vars;
    private int rows = 0;

    private final int[] objective = new int[MAX_VARS];
    private final int[] low = new int[MAX_VARS];
    private final int[] high = new int[MAX_VARS];
    private final int[] kinds = new int[MAX_ROWS];
    private final int[] rightSides = new int[MAX_ROWS];
    private final int[] coefs = new int[MAX_CELLS];

    private int state = UNSOLVED;
    private int bestValue = 0;
    private int bestCode = 0;

    public GomoryBranch(int vars) {
        this.vars = vars < 1 ? 1 : (vars > MAX_VARS ? MAX_VARS : vars);
        for (int v = 0; v < MAX_VARS; v++) {
            high[v] = MAX_BOUND;
        }
    }

    public int numVars() {
        return vars;
    }

    public int numRows() {
        return rows;
    }

    public boolean setObjective(int v, int coef) {
        if (!isVar(v) || !isCoef(coef)) {
            return false;
        }
        objective[v] = coef;
        state = UNSOLVED;
        return true;
    }

    public boolean setBounds(int v, int lo, int hi) {
        if (!isVar(v) || lo < 0 || lo > hi || hi > MAX_BOUND) {
            return false;
        }
        low[v] = lo;
        high[v] = hi;
        state = UNSOLVED;
        return true;
    }

    public int addRow(int kind, int rhs) {
        if (rows >= MAX_ROWS || !isKind(kind) || rhs < -MAX_RHS || rhs > MAX_RHS) {
            return -1;
        }
        int row = rows;
        kinds[row] = kind;
        rightSides[row] = rhs;
        clearCoefs(row);
        rows = row + 1;
        state = UNSOLVED;
        return row;
    }

    public boolean setCoef(int row, int v, int coef) {
        if (!isRow(row) || !isVar(v) || !isCoef(coef)) {
            return false;
        }
        coefs[row * MAX_VARS + v] = coef;
        state = UNSOLVED;
        return true;
    }

    public boolean removeLastRow() {
        if (rows <= 0) {
            return false;
        }
        rows = rows - 1;
        state = UNSOLVED;
        return true;
    }

    public int solve() {
        int codes = 1 << (COORDINATE_BITS * vars);
        state = INFEASIBLE;
        bestValue = 0;
        bestCode = 0;
        for (int code = 0; code < codes; code++) {
            if (isInBox(code) && meetsAllRows(code)) {
                keepIfBetter(code);
            }
        }
        return state;
    }

    public int status() {
        return state;
    }

    public int value() {
        return state == OPTIMAL ? bestValue : 0;
    }

    public int point(int v) {
        return state == OPTIMAL && isVar(v) ? coordinate(bestCode, v) : 0;
    }

    public int getCoef(int row, int v) {
        return isRow(row) && isVar(v) ? coefs[row * MAX_VARS + v] : 0;
    }

    public int getRhs(int row) {
        return isRow(row) ? rightSides[row] : 0;
    }

    public int getKind(int row) {
        return isRow(row) ? kinds[row] : 0;
    }

    public int getObjective(int v) {
        return isVar(v) ? objective[v] : 0;
    }

    public int getBound(int v, int which) {
        if (!isVar(v)) {
            return 0;
        }
        if (which == 0) {
            return low[v];
        }
        return which == 1 ? high[v] : 0;
    }

    private boolean isVar(int v) {
        return v >= 0 && v < vars;
    }

    private boolean isRow(int row) {
        return row >= 0 && row < rows;
    }

    private static boolean isCoef(int coef) {
        return coef >= -MAX_COEF && coef <= MAX_COEF;
    }

    private static boolean isKind(int kind) {
        return kind == LE || kind == GE || kind == EQ;
    }

    // A row removed earlier leaves its coefficients behind; a new row must not inherit them.
    private void clearCoefs(int row) {
        for (int v = 0; v < MAX_VARS; v++) {
            coefs[row * MAX_VARS + v] = 0;
        }
    }

    private int coordinate(int code, int v) {
        return (code >> (COORDINATE_BITS * (vars - 1 - v))) & COORDINATE_MASK;
    }

    private boolean isInBox(int code) {
        for (int v = 0; v < vars; v++) {
            int x = coordinate(code, v);
            if (x < low[v] || x > high[v]) {
                return false;
            }
        }
        return true;
    }

    private boolean meetsAllRows(int code) {
        for (int row = 0; row < rows; row++) {
            if (!meetsRow(row, code)) {
                return false;
            }
        }
        return true;
    }

    private boolean meetsRow(int row, int code) {
        int sum = rowSum(row, code);
        if (kinds[row] == LE) {
            return sum <= rightSides[row];
        }
        if (kinds[row] == GE) {
            return sum >= rightSides[row];
        }
        return sum == rightSides[row];
    }

    private int rowSum(int row, int code) {
        int sum = 0;
        for (int v = 0; v < vars; v++) {
            sum += coefs[row * MAX_VARS + v] * coordinate(code, v);
        }
        return sum;
    }

    private int objectiveSum(int code) {
        int sum = 0;
        for (int v = 0; v < vars; v++) {
            sum += objective[v] * coordinate(code, v);
        }
        return sum;
    }

    // Only a strictly greater value replaces the kept point, so ties stay with the smaller code.
    private void keepIfBetter(int code) {
        int sum = objectiveSum(code);
        if (state != OPTIMAL || sum > bestValue) {
            state = OPTIMAL;
            bestValue = sum;
            bestCode = code;
        }
    }
}
