import java.util.function.ToIntFunction;

// One call of the class with its text; a boolean answer counts 1 or 0.
record Call(String text, ToIntFunction<GomoryBranch> make) {
    int on(GomoryBranch g) {
        return make.applyAsInt(g);
    }

    private static Call of(String name, ToIntFunction<GomoryBranch> make, int... arguments) {
        StringBuilder text = new StringBuilder(name).append('(');
        for (int i = 0; i < arguments.length; i++) {
            text.append(i == 0 ? "" : ", ").append(arguments[i]);
        }
        return new Call(text.append(')').toString(), make);
    }

    static Call numVars() {
        return of("numVars", GomoryBranch::numVars);
    }

    static Call numRows() {
        return of("numRows", GomoryBranch::numRows);
    }

    static Call setObjective(int v, int coef) {
        return of("setObjective", g -> g.setObjective(v, coef) ? 1 : 0, v, coef);
    }

    static Call setBounds(int v, int lo, int hi) {
        return of("setBounds", g -> g.setBounds(v, lo, hi) ? 1 : 0, v, lo, hi);
    }

    static Call addRow(int kind, int rhs) {
        return of("addRow", g -> g.addRow(kind, rhs), kind, rhs);
    }

    static Call setCoef(int row, int v, int coef) {
        return of("setCoef", g -> g.setCoef(row, v, coef) ? 1 : 0, row, v, coef);
    }

    static Call removeLastRow() {
        return of("removeLastRow", g -> g.removeLastRow() ? 1 : 0);
    }

    static Call solve() {
        return of("solve", GomoryBranch::solve);
    }

    static Call status() {
        return of("status", GomoryBranch::status);
    }

    static Call value() {
        return of("value", GomoryBranch::value);
    }

    static Call point(int v) {
        return of("point", g -> g.point(v), v);
    }

    static Call getCoef(int row, int v) {
        return of("getCoef", g -> g.getCoef(row, v), row, v);
    }

    static Call getRhs(int row) {
        return of("getRhs", g -> g.getRhs(row), row);
    }

    static Call getKind(int row) {
        return of("getKind", g -> g.getKind(row), row);
    }

    static Call getObjective(int v) {
        return of("getObjective", g -> g.getObjective(v), v);
    }

    static Call getBound(int v, int which) {
        return of("getBound", g -> g.getBound(v, which), v, which);
    }
}
