import java.util.ArrayList;
import java.util.List;

// An object to start a test from. All of them together: every n, no rows to all rows, each status.
// Their data differ from a fresh object's everywhere, so that a change made by mistake shows.
record Sample(int n, int rows, Past past) {
    enum Past { NEVER_SOLVED, CHANGED_SINCE, OPTIMAL, INFEASIBLE }

    static final List<Sample> ALL = all();

    private static final int[] OBJECTIVE = {2, 3, -4, 5};
    private static final int[] LOW = {1, 2, 1, 3};
    private static final int[] HIGH = {6, 5, 7, 4};

    // The only optimum of the box: a row that this point meets leaves it the optimum.
    private static final int[] BEST = {6, 5, 1, 4};

    private static List<Sample> all() {
        List<Sample> samples = new ArrayList<>();
        for (int n = 1; n <= 4; n++) {
            for (int rows : new int[] {0, 1, 2, 7, 8}) {
                for (Past past : Past.values()) {
                    if (past != Past.INFEASIBLE || rows > 0) {
                        samples.add(new Sample(n, rows, past));
                    }
                }
            }
        }
        return samples;
    }

    static List<Sample> of(Past past) {
        return ALL.stream().filter(s -> s.past == past).toList();
    }

    static List<Sample> solved() {
        return ALL.stream().filter(s -> s.status() != GomoryBranch.UNSOLVED).toList();
    }

    static List<Sample> unsolved() {
        return ALL.stream().filter(s -> s.status() == GomoryBranch.UNSOLVED).toList();
    }

    int status() {
        return switch (past) {
            case OPTIMAL -> GomoryBranch.OPTIMAL;
            case INFEASIBLE -> GomoryBranch.INFEASIBLE;
            default -> GomoryBranch.UNSOLVED;
        };
    }

    boolean isOptimal() {
        return past == Past.OPTIMAL;
    }

    int objective(int v) {
        return OBJECTIVE[v];
    }

    int low(int v) {
        return LOW[v];
    }

    int high(int v) {
        return HIGH[v];
    }

    int best(int v) {
        return BEST[v];
    }

    int bestValue() {
        int sum = 0;
        for (int v = 0; v < n; v++) {
            sum += OBJECTIVE[v] * BEST[v];
        }
        return sum;
    }

    // No sum of coefficients 1 over the box comes near 99, so this row alone makes it infeasible.
    private boolean isImpossible(int row) {
        return past == Past.INFEASIBLE && row == rows - 1;
    }

    int kind(int row) {
        return isImpossible(row) ? GomoryBranch.EQ : 1 + row % 3;
    }

    int coef(int row, int v) {
        int k = (row * 7 + v * 3) % 10;
        return isImpossible(row) ? 1 : (k < 5 ? k - 5 : k - 4);
    }

    int rhs(int row) {
        int sum = 0;
        for (int v = 0; v < n; v++) {
            sum += coef(row, v) * BEST[v];
        }
        int slack = kind(row) == GomoryBranch.LE ? 2 : (kind(row) == GomoryBranch.GE ? -3 : 0);
        return isImpossible(row) ? 99 : sum + slack;
    }

    GomoryBranch make() {
        GomoryBranch g = new GomoryBranch(n);
        for (int v = 0; v < n; v++) {
            g.setObjective(v, OBJECTIVE[v]);
            g.setBounds(v, LOW[v], HIGH[v]);
        }
        for (int row = 0; row < rows; row++) {
            g.addRow(kind(row), rhs(row));
            for (int v = 0; v < n; v++) {
                g.setCoef(row, v, coef(row, v));
            }
        }
        if (past != Past.NEVER_SOLVED) {
            g.solve();
        }
        if (past == Past.CHANGED_SINCE) {
            g.setObjective(0, OBJECTIVE[0]);
        }
        return g;
    }
}
