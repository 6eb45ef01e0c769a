import java.util.List;
import java.util.function.Function;

// Promises 1 to 3: the constructor, numVars and numRows.
public final class FreshBoundaryTest {
    private static final String FIRST = "Promise 1";
    private static final String SECOND = "Promise 2";
    private static final String THIRD = "Promise 3";

    // n shows in numVars() and in which variables there are, for the calls and for solve().
    private static void hasVariables(int vars, int n) {
        String name = "GomoryBranch(" + vars + ")";
        GomoryBranch g = new GomoryBranch(vars);
        Sentences.due(name + ".numVars()", g.numVars(), n);
        for (int v = -1; v <= 5; v++) {
            int isVar = 0 <= v && v < n ? 1 : 0;
            Sentences.due(name + ".getBound(" + v + ", 1)", g.getBound(v, 1), 7 * isVar);
            Sentences.due(name + ".setObjective(" + v + ", 1)", Call.setObjective(v, 1).on(g), isVar);
        }
        Sentences.due(name + ".solve()", g.solve(), GomoryBranch.OPTIMAL);
        Sentences.due(name + ".value()", g.value(), 7 * n);
    }

    private static void clampedFromBelow() {
        hasVariables(0, 1);
        hasVariables(Integer.MIN_VALUE, 1);
        for (int vars : Calls.below(1)) {
            hasVariables(vars, 1);
        }
    }

    private static void clampedFromAbove() {
        hasVariables(5, 4);
        hasVariables(Integer.MAX_VALUE, 4);
        for (int vars : Calls.above(4)) {
            hasVariables(vars, 4);
        }
    }

    private static void takenAsTheyAre() {
        for (int n = 1; n <= 4; n++) {
            hasVariables(n, n);
        }
    }

    private static int[] everyKindOfArgument() {
        int[] low = Calls.below(2);
        int[] high = Calls.above(1);
        int[] all = new int[low.length + high.length];
        System.arraycopy(low, 0, all, 0, low.length);
        System.arraycopy(high, 0, all, low.length, high.length);
        return all;
    }

    // A throw would end this test as a fault.
    private static void neverFails() {
        for (int vars : everyKindOfArgument()) {
            Sentences.holds("GomoryBranch(" + vars + ") is made", new GomoryBranch(vars).numVars() > 0);
        }
    }

    private static void freshData() {
        for (int vars : everyKindOfArgument()) {
            GomoryBranch g = new GomoryBranch(vars);
            for (int v = 0; v < g.numVars(); v++) {
                Sentences.due("fresh getObjective(" + v + ")", g.getObjective(v), 0);
                Sentences.due("fresh getBound(" + v + ", 0)", g.getBound(v, 0), 0);
                Sentences.due("fresh getBound(" + v + ", 1)", g.getBound(v, 1), 7);
            }
        }
    }

    private static void freshRowsAndResult() {
        for (int vars : everyKindOfArgument()) {
            GomoryBranch g = new GomoryBranch(vars);
            Sentences.due("fresh numRows()", g.numRows(), 0);
            Sentences.due("fresh status()", g.status(), GomoryBranch.UNSOLVED);
            Sentences.due("fresh value()", g.value(), 0);
            for (int v = 0; v < g.numVars(); v++) {
                Sentences.due("fresh point(" + v + ")", g.point(v), 0);
            }
        }
    }

    // What was done to one object must not show in the next one.
    private static void freshBesideAnother() {
        for (Sample s : Sample.ALL) {
            int[] before = Look.at(new GomoryBranch(s.n()));
            GomoryBranch used = s.make();
            GomoryBranch fresh = new GomoryBranch(s.n());
            Look.same("a fresh object beside " + s, Look.at(fresh), before);
            fresh.setObjective(0, -7);
            fresh.setBounds(0, 3, 3);
            fresh.addRow(GomoryBranch.GE, 5);
            fresh.setCoef(0, 0, 9);
            fresh.solve();
            Look.same("work on a fresh object beside " + s, Look.at(used), Look.due(s));
        }
    }

    private static List<Call> everyCall(Sample s) {
        return Calls.joined(Calls.accepted(s), Calls.refused(s), Calls.getters(s), List.of(Call.solve()));
    }

    private static void numVarsStays() {
        for (Sample s : Sample.ALL) {
            GomoryBranch g = s.make();
            for (Call call : everyCall(s)) {
                call.on(g);
                Sentences.due(s + ": " + call.text() + ", then numVars()", g.numVars(), s.n());
            }
        }
    }

    private static void numVarsIsN() {
        for (int vars = -2; vars <= 7; vars++) {
            Sentences.due("GomoryBranch(" + vars + ").numVars()", new GomoryBranch(vars).numVars(), vars < 1 ? 1 : Math.min(vars, 4));
        }
    }

    private static void numRowsFromNoneToEight() {
        GomoryBranch g = new GomoryBranch(2);
        for (int i = 0; i < 12; i++) {
            Sentences.due("numRows() before addRow number " + i, g.numRows(), Math.min(i, 8));
            g.addRow(GomoryBranch.EQ, 0);
        }
        for (int i = 0; i < 12; i++) {
            Sentences.due("numRows() before removeLastRow number " + i, g.numRows(), Math.max(8 - i, 0));
            g.removeLastRow();
        }
        Sentences.due("numRows() at the end", g.numRows(), 0);
    }

    private static void numRowsMoves(int step, Function<Sample, List<Call>> calls) {
        for (Sample s : Sample.ALL) {
            for (Call call : calls.apply(s)) {
                GomoryBranch g = s.make();
                call.on(g);
                Sentences.due(s + ": " + call.text() + ", then numRows()", g.numRows(), s.rows() + step);
            }
        }
    }

    private static void numRowsStays() {
        for (Sample s : Sample.ALL) {
            GomoryBranch g = s.make();
            List<Call> others = Calls.joined(Calls.acceptedObjective(s), Calls.acceptedBounds(s), Calls.acceptedCoef(s),
                Calls.refused(s), Calls.getters(s), List.of(Call.solve()));
            for (Call call : others) {
                call.on(g);
                Sentences.due(s + ": " + call.text() + ", then numRows()", g.numRows(), s.rows());
            }
        }
    }

    public static void main(String[] args) {
        Sentences.test(FIRST, "any value below 1 (including 0, negative values and Integer.MIN_VALUE) gives n = 1",
            FreshBoundaryTest::clampedFromBelow);
        Sentences.test(FIRST, "any value above 4 (up to Integer.MAX_VALUE) gives n = 4", FreshBoundaryTest::clampedFromAbove);
        Sentences.test(FIRST, "values 1 .. 4 are taken as they are", FreshBoundaryTest::takenAsTheyAre);
        Sentences.test(FIRST, "The constructor never fails.", FreshBoundaryTest::neverFails);
        Sentences.test(FIRST, "makes a fresh object", FreshBoundaryTest::freshBesideAnother);
        Sentences.test(FIRST, "A fresh object has, for every j in 0 .. n-1: c[j] = 0, lo[j] = 0, hi[j] = 7.", FreshBoundaryTest::freshData);
        Sentences.test(FIRST, "It has no rows (numRows() is 0) and status UNSOLVED, so value() and every point(j) answer 0.",
            FreshBoundaryTest::freshRowsAndResult);

        Sentences.test(SECOND, "answers n, a number in 1 .. 4", FreshBoundaryTest::numVarsIsN);
        Sentences.test(SECOND, "It never changes during the life of the object", FreshBoundaryTest::numVarsStays);
        Sentences.test(SECOND, "and the call changes nothing", () -> Sentences.changesNothing(s -> List.of(Call.numVars())));

        Sentences.test(THIRD, "answers the number of rows currently present, a number in 0 .. 8", FreshBoundaryTest::numRowsFromNoneToEight);
        Sentences.test(THIRD, "It grows by one with each accepted addRow", () -> numRowsMoves(1, Calls::acceptedRow));
        Sentences.test(THIRD, "shrinks by one with each accepted removeLastRow", () -> numRowsMoves(-1, Calls::acceptedRemoval));
        Sentences.test(THIRD, "no other call changes it", FreshBoundaryTest::numRowsStays);
        Sentences.test(THIRD, "The call itself changes nothing.", () -> Sentences.changesNothing(s -> List.of(Call.numRows())));
        Sentences.end();
    }
}
