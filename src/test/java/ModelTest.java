import java.util.ArrayList;
import java.util.List;

// Long runs of mixed calls, each answer compared with a plain model written apart from the class.
// The calls come from a fixed sequence of numbers, so every run of this test makes the same ones.
public final class ModelTest {
    private static final int OBJECTS = 400;
    private static final int CALLS = 250;
    private static final int[] WILD = {Integer.MIN_VALUE, Integer.MAX_VALUE, -1, -2, 4, 8, 9, 10, -10, 100, -100};

    private static long seed = 20261115L;
    private static int wrong = 0;

    private static final class Row {
        final int kind;
        final int rhs;
        final int[] a;

        Row(int kind, int rhs, int n) {
            this.kind = kind;
            this.rhs = rhs;
            this.a = new int[n];
        }

        boolean holds(int[] x) {
            int sum = dot(a, x);
            return kind == 1 && sum <= rhs || kind == 2 && sum >= rhs || kind == 3 && sum == rhs;
        }
    }

    private static final class Model {
        final int n;
        final int[] c;
        final int[] lo;
        final int[] hi;
        final List<Row> rows = new ArrayList<>();
        int status = 0;
        int value = 0;
        int[] best = null;

        Model(int vars) {
            n = vars < 1 ? 1 : Math.min(vars, 4);
            c = new int[n];
            lo = new int[n];
            hi = new int[n];
            java.util.Arrays.fill(hi, 7);
        }

        boolean isVar(int v) {
            return v >= 0 && v < n;
        }

        boolean isRow(int r) {
            return r >= 0 && r < rows.size();
        }

        int setObjective(int v, int coef) {
            if (!isVar(v) || coef < -9 || coef > 9) {
                return 0;
            }
            c[v] = coef;
            status = 0;
            return 1;
        }

        int setBounds(int v, int l, int h) {
            if (!isVar(v) || !(0 <= l && l <= h && h <= 7)) {
                return 0;
            }
            lo[v] = l;
            hi[v] = h;
            status = 0;
            return 1;
        }

        int addRow(int kind, int rhs) {
            if (rows.size() == 8 || kind < 1 || kind > 3 || rhs < -99 || rhs > 99) {
                return -1;
            }
            rows.add(new Row(kind, rhs, n));
            status = 0;
            return rows.size() - 1;
        }

        int setCoef(int r, int v, int coef) {
            if (!isRow(r) || !isVar(v) || coef < -9 || coef > 9) {
                return 0;
            }
            rows.get(r).a[v] = coef;
            status = 0;
            return 1;
        }

        int removeLastRow() {
            if (rows.isEmpty()) {
                return 0;
            }
            rows.remove(rows.size() - 1);
            status = 0;
            return 1;
        }

        // Walks the box from its last point to its first, so that a tie goes to the later one seen.
        int solve() {
            best = null;
            int[] x = hi.clone();
            boolean more = true;
            while (more) {
                consider(x);
                more = stepDown(x);
            }
            status = best == null ? 2 : 1;
            return status;
        }

        private void consider(int[] x) {
            for (Row row : rows) {
                if (!row.holds(x)) {
                    return;
                }
            }
            int sum = dot(c, x);
            if (best == null || sum >= value) {
                best = x.clone();
                value = sum;
            }
        }

        private boolean stepDown(int[] x) {
            for (int v = n - 1; v >= 0; v--) {
                if (x[v] > lo[v]) {
                    x[v]--;
                    return true;
                }
                x[v] = hi[v];
            }
            return false;
        }
    }

    private static int dot(int[] a, int[] x) {
        int sum = 0;
        for (int v = 0; v < x.length; v++) {
            sum += a[v] * x[v];
        }
        return sum;
    }

    private static int next(int count) {
        seed = seed * 6364136223846793005L + 1442695040888963407L;
        return (int) ((seed >>> 33) % count);
    }

    private static int between(int from, int to) {
        return next(40) == 0 ? WILD[next(WILD.length)] : from + next(to - from + 1);
    }

    private static void due(String call, int got, int want) {
        if (got != want) {
            wrong++;
            if (wrong <= 20) {
                System.out.println(call + " answered " + got + ", due is " + want);
            }
        }
    }

    private static int number(boolean b) {
        return b ? 1 : 0;
    }

    private static void call(GomoryBranch g, Model m) {
        int v = between(0, m.n - 1);
        int r = between(0, Math.max(0, m.rows.size() - 1));
        int coef = between(-9, 9);
        switch (next(12)) {
            case 0: case 1:
                due("setObjective(" + v + ", " + coef + ")", number(g.setObjective(v, coef)), m.setObjective(v, coef));
                break;
            case 2:
                int lo = between(0, 4);
                int hi = between(2, 7);
                due("setBounds(" + v + ", " + lo + ", " + hi + ")", number(g.setBounds(v, lo, hi)), m.setBounds(v, lo, hi));
                break;
            case 3:
                int kind = between(1, 3);
                int rhs = next(3) == 0 ? between(-99, 99) : between(-12, 40);
                due("addRow(" + kind + ", " + rhs + ")", g.addRow(kind, rhs), m.addRow(kind, rhs));
                break;
            case 4: case 5: case 6: case 7:
                due("setCoef(" + r + ", " + v + ", " + coef + ")", number(g.setCoef(r, v, coef)), m.setCoef(r, v, coef));
                break;
            case 8:
                due("removeLastRow()", number(g.removeLastRow()), m.removeLastRow());
                break;
            default:
                due("solve()", g.solve(), m.solve());
                break;
        }
    }

    private static void compare(GomoryBranch g, Model m) {
        boolean solved = m.status == 1;
        due("numVars()", g.numVars(), m.n);
        due("numRows()", g.numRows(), m.rows.size());
        due("status()", g.status(), m.status);
        due("value()", g.value(), solved ? m.value : 0);
        for (int v = -1; v <= 4; v++) {
            boolean isVar = m.isVar(v);
            due("point(" + v + ")", g.point(v), solved && isVar ? m.best[v] : 0);
            due("getObjective(" + v + ")", g.getObjective(v), isVar ? m.c[v] : 0);
            due("getBound(" + v + ", -1)", g.getBound(v, -1), 0);
            due("getBound(" + v + ", 0)", g.getBound(v, 0), isVar ? m.lo[v] : 0);
            due("getBound(" + v + ", 1)", g.getBound(v, 1), isVar ? m.hi[v] : 0);
            due("getBound(" + v + ", 2)", g.getBound(v, 2), 0);
        }
        for (int r = -1; r <= 8; r++) {
            boolean isRow = m.isRow(r);
            due("getKind(" + r + ")", g.getKind(r), isRow ? m.rows.get(r).kind : 0);
            due("getRhs(" + r + ")", g.getRhs(r), isRow ? m.rows.get(r).rhs : 0);
            for (int v = -1; v <= 4; v++) {
                due("getCoef(" + r + ", " + v + ")", g.getCoef(r, v), isRow && m.isVar(v) ? m.rows.get(r).a[v] : 0);
            }
        }
    }

    public static void main(String[] args) {
        int optimal = 0;
        int infeasible = 0;
        for (int i = 0; i < OBJECTS; i++) {
            int vars = next(20) == 0 ? WILD[next(WILD.length)] : 1 + next(4);
            GomoryBranch g = new GomoryBranch(vars);
            Model m = new Model(vars);
            compare(g, m);
            for (int k = 0; k < CALLS; k++) {
                call(g, m);
                compare(g, m);
                optimal += m.status == 1 ? 1 : 0;
                infeasible += m.status == 2 ? 1 : 0;
            }
        }
        // A sequence that hardly ever solves anything would prove nothing.
        due("runs with an optimum", number(optimal > 2000), 1);
        due("runs without a feasible point", number(infeasible > 2000), 1);
        System.out.println(wrong == 0
            ? "all answers are those of the model (" + optimal + " optimal, " + infeasible + " infeasible states)"
            : wrong + " answers are not those of the model");
        if (wrong != 0) {
            System.exit(1);
        }
    }
}
