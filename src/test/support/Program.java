// Writes programs down in few words, and looks through all their points by the getters alone.
final class Program {
    private Program() {
    }

    static GomoryBranch of(int... objective) {
        GomoryBranch g = new GomoryBranch(objective.length);
        for (int v = 0; v < objective.length; v++) {
            g.setObjective(v, objective[v]);
        }
        return g;
    }

    static GomoryBranch fixed(int... point) {
        GomoryBranch g = new GomoryBranch(point.length);
        for (int v = 0; v < point.length; v++) {
            g.setBounds(v, point[v], point[v]);
        }
        return g;
    }

    static void row(GomoryBranch g, int kind, int rhs, int... coefs) {
        int row = g.addRow(kind, rhs);
        for (int v = 0; v < coefs.length; v++) {
            g.setCoef(row, v, coefs[v]);
        }
    }

    static void optimal(String name, GomoryBranch g, int value, int... point) {
        Sentences.due(name + ": solve()", g.solve(), GomoryBranch.OPTIMAL);
        Sentences.due(name + ": status()", g.status(), GomoryBranch.OPTIMAL);
        Sentences.due(name + ": value()", g.value(), value);
        for (int v = 0; v < point.length; v++) {
            Sentences.due(name + ": point(" + v + ")", g.point(v), point[v]);
        }
    }

    static void infeasible(String name, GomoryBranch g) {
        Sentences.due(name + ": solve()", g.solve(), GomoryBranch.INFEASIBLE);
        Sentences.due(name + ": status()", g.status(), GomoryBranch.INFEASIBLE);
        Sentences.due(name + ": value()", g.value(), 0);
        for (int v : Calls.indices()) {
            Sentences.due(name + ": point(" + v + ")", g.point(v), 0);
        }
    }

    static int objectiveAt(GomoryBranch g, int[] x) {
        int sum = 0;
        for (int v = 0; v < x.length; v++) {
            sum += g.getObjective(v) * x[v];
        }
        return sum;
    }

    static boolean rowHolds(GomoryBranch g, int row, int[] x) {
        int sum = 0;
        for (int v = 0; v < x.length; v++) {
            sum += g.getCoef(row, v) * x[v];
        }
        return switch (g.getKind(row)) {
            case GomoryBranch.LE -> sum <= g.getRhs(row);
            case GomoryBranch.GE -> sum >= g.getRhs(row);
            default -> sum == g.getRhs(row);
        };
    }

    static boolean rowsHold(GomoryBranch g, int[] x) {
        for (int row = 0; row < g.numRows(); row++) {
            if (!rowHolds(g, row, x)) {
                return false;
            }
        }
        return true;
    }

    static int[] firstOfBox(GomoryBranch g) {
        int[] x = new int[g.numVars()];
        for (int v = 0; v < x.length; v++) {
            x[v] = g.getBound(v, 0);
        }
        return x;
    }

    // Goes to the next point of the box in lexicographic order; false at its end.
    static boolean next(GomoryBranch g, int[] x) {
        for (int v = x.length - 1; v >= 0; v--) {
            if (x[v] < g.getBound(v, 1)) {
                x[v]++;
                return true;
            }
            x[v] = g.getBound(v, 0);
        }
        return false;
    }

    static int[] answered(GomoryBranch g) {
        int[] x = new int[g.numVars()];
        for (int v = 0; v < x.length; v++) {
            x[v] = g.point(v);
        }
        return x;
    }
}
