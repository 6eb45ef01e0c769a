import java.util.List;

// The limits and the rules for every call, from the section 'What it is'.
public final class RulesBoundaryTest {
    private static final String SECTION = "What it is";

    private static GomoryBranch corner() {
        GomoryBranch g = new GomoryBranch(4);
        for (int v = 0; v < 4; v++) {
            g.setBounds(v, 7, 7);
        }
        return g;
    }

    private static void value(int coef, int due) {
        GomoryBranch g = corner();
        for (int v = 0; v < 4; v++) {
            g.setObjective(v, coef);
        }
        g.solve();
        Sentences.due("value() of four times " + coef + " * 7", g.value(), due);
    }

    private static void row(int coef, int kind, int rhs, int due) {
        GomoryBranch g = corner();
        g.addRow(kind, rhs);
        for (int v = 0; v < 4; v++) {
            g.setCoef(0, v, coef);
        }
        Sentences.due("solve() of four times " + coef + " * 7, kind " + kind + ", " + rhs, g.solve(), due);
    }

    private static void sumsAtTheirEnds() {
        value(9, 252);
        value(-9, -252);
        row(9, GomoryBranch.LE, 99, GomoryBranch.INFEASIBLE);
        row(9, GomoryBranch.GE, 99, GomoryBranch.OPTIMAL);
        row(9, GomoryBranch.EQ, 99, GomoryBranch.INFEASIBLE);
        row(9, GomoryBranch.LE, -4, GomoryBranch.INFEASIBLE);
        row(9, GomoryBranch.EQ, -4, GomoryBranch.INFEASIBLE);
        row(-9, GomoryBranch.LE, -99, GomoryBranch.OPTIMAL);
        row(-9, GomoryBranch.GE, -99, GomoryBranch.INFEASIBLE);
        row(-9, GomoryBranch.EQ, -99, GomoryBranch.INFEASIBLE);
        row(-9, GomoryBranch.GE, 4, GomoryBranch.INFEASIBLE);
        row(-9, GomoryBranch.EQ, 4, GomoryBranch.INFEASIBLE);
    }

    private static void coefficientLimit() {
        GomoryBranch g = new GomoryBranch(1);
        g.addRow(GomoryBranch.LE, 0);
        for (int coef = -12; coef <= 12; coef++) {
            int due = -GomoryBranch.MAX_COEF <= coef && coef <= GomoryBranch.MAX_COEF ? 1 : 0;
            Sentences.due("setObjective(0, " + coef + ")", Call.setObjective(0, coef).on(g), due);
            Sentences.due("setCoef(0, 0, " + coef + ")", Call.setCoef(0, 0, coef).on(g), due);
        }
        Sentences.due("MAX_COEF", GomoryBranch.MAX_COEF, 9);
    }

    private static void rightSideLimit() {
        for (int rhs = -102; rhs <= 102; rhs++) {
            int due = -GomoryBranch.MAX_RHS <= rhs && rhs <= GomoryBranch.MAX_RHS ? 0 : -1;
            Sentences.due("addRow(1, " + rhs + ")", new GomoryBranch(1).addRow(GomoryBranch.LE, rhs), due);
        }
        Sentences.due("MAX_RHS", GomoryBranch.MAX_RHS, 99);
    }

    private static void boundLimit() {
        for (int lo = -3; lo <= 10; lo++) {
            for (int hi = -3; hi <= 10; hi++) {
                int due = 0 <= lo && lo <= hi && hi <= GomoryBranch.MAX_BOUND ? 1 : 0;
                Call call = Call.setBounds(0, lo, hi);
                Sentences.due(call.text(), call.on(new GomoryBranch(1)), due);
            }
        }
        Sentences.due("MAX_BOUND", GomoryBranch.MAX_BOUND, 7);
    }

    private static void rowLimit() {
        for (int n = 1; n <= GomoryBranch.MAX_VARS; n++) {
            GomoryBranch g = new GomoryBranch(n);
            for (int i = 0; i < 20; i++) {
                int due = i < GomoryBranch.MAX_ROWS ? i : -1;
                Sentences.due("addRow number " + i, g.addRow(GomoryBranch.LE, 0), due);
            }
        }
        Sentences.due("MAX_ROWS", GomoryBranch.MAX_ROWS, 8);
    }

    private static void variableLimit() {
        for (int vars = -3; vars <= 8; vars++) {
            GomoryBranch g = new GomoryBranch(vars);
            int n = Math.max(1, Math.min(vars, GomoryBranch.MAX_VARS));
            for (int v = -3; v <= 8; v++) {
                Call call = Call.setObjective(v, 1);
                Sentences.due("GomoryBranch(" + vars + ")." + call.text(), call.on(g), 0 <= v && v < n ? 1 : 0);
            }
        }
        Sentences.due("MAX_VARS", GomoryBranch.MAX_VARS, 4);
    }

    private static List<Call> unchangedValues(Sample s) {
        return Calls.joined(Calls.sameObjective(s), Calls.sameBounds(s), Calls.sameCoef(s));
    }

    private static void noResult(String when, GomoryBranch g) {
        Sentences.due(when + ": value()", g.value(), 0);
        for (int v : Calls.indices()) {
            Sentences.due(when + ": point(" + v + ")", g.point(v), 0);
        }
    }

    private static void zeroUnlessOptimal() {
        for (int n = 1; n <= 4; n++) {
            noResult("fresh with n = " + n, new GomoryBranch(n));
        }
        for (Sample s : Sample.ALL) {
            if (!s.isOptimal()) {
                noResult(s.toString(), s.make());
            }
        }
        for (Sample s : Sample.of(Sample.Past.OPTIMAL)) {
            for (Call call : Calls.accepted(s)) {
                GomoryBranch g = s.make();
                call.on(g);
                noResult(s + ": " + call.text(), g);
            }
        }
    }

    public static void main(String[] args) {
        Sentences.test(SECTION, "n is fixed by the constructor and lies in 1 .. 4", RulesBoundaryTest::variableLimit);
        Sentences.test(SECTION, "With the limits below every such sum lies between -999 and 999, so Java int arithmetic gives them exactly.",
            RulesBoundaryTest::sumsAtTheirEnds);
        Sentences.test(SECTION, "the rows 0 .. numRows()-1 (at most MAX_ROWS = 8)", RulesBoundaryTest::rowLimit);
        Sentences.test(SECTION, "MAX_COEF = 9 (objective and row coefficients lie in -9 .. 9)", RulesBoundaryTest::coefficientLimit);
        Sentences.test(SECTION, "MAX_RHS = 99 (right-hand sides lie in -99 .. 99)", RulesBoundaryTest::rightSideLimit);
        Sentences.test(SECTION, "MAX_BOUND = 7 (bounds satisfy 0 <= lo <= hi <= 7)", RulesBoundaryTest::boundLimit);
        Sentences.test(SECTION, "Every ACCEPTED call of setObjective, setBounds, addRow, setCoef or removeLastRow sets status to UNSOLVED",
            () -> Sentences.becomesUnsolved(Calls::accepted));
        Sentences.test(SECTION, "even when it stores a value equal to the old one",
            () -> Sentences.becomesUnsolved(RulesBoundaryTest::unchangedValues));
        Sentences.test(SECTION, "A REFUSED call changes nothing at all, neither program data nor result data.",
            () -> Sentences.changesNothing(Calls::refused));
        Sentences.test(SECTION, "The getters (numVars, numRows, value, point, getCoef, getRhs, getKind, getObjective, getBound)"
            + " and status() never change anything.", () -> Sentences.changesNothing(Calls::getters));
        Sentences.test(SECTION, "While status is not OPTIMAL, value() and point(j) answer 0.", RulesBoundaryTest::zeroUnlessOptimal);
        Sentences.end();
    }
}
