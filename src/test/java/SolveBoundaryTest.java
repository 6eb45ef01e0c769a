import java.util.ArrayList;
import java.util.Arrays;
import java.util.List;

// Promises 9 to 12: solve and what it leaves behind.
public final class SolveBoundaryTest {
    private static final String SOLVE = "Promise 9";
    private static final String STATUS = "Promise 10";
    private static final String VALUE = "Promise 11";
    private static final String POINT = "Promise 12";

    private static final int LE = GomoryBranch.LE;
    private static final int GE = GomoryBranch.GE;
    private static final int EQ = GomoryBranch.EQ;

    private static void answersTheNewStatus() {
        for (Sample s : Sample.ALL) {
            GomoryBranch g = s.make();
            int due = s.past() == Sample.Past.INFEASIBLE ? GomoryBranch.INFEASIBLE : GomoryBranch.OPTIMAL;
            Sentences.due(s + ": solve()", g.solve(), due);
            Sentences.due(s + ": solve(), then status()", g.status(), due);
        }
    }

    private static void neverRefused() {
        for (int n = 1; n <= 4; n++) {
            GomoryBranch g = new GomoryBranch(n);
            Sentences.due("solve() on a fresh object", g.solve(), GomoryBranch.OPTIMAL);
            for (int rows = 1; rows <= 8; rows++) {
                g.addRow(LE, 0);
                Sentences.due("solve() with " + rows + " rows", g.solve(), GomoryBranch.OPTIMAL);
            }
            g.addRow(LE, 0);
            Sentences.due("solve() after an addRow too many", g.solve(), GomoryBranch.OPTIMAL);
            for (int rows = 7; rows >= 0; rows--) {
                g.removeLastRow();
                Sentences.due("solve() with " + rows + " rows left", g.solve(), GomoryBranch.OPTIMAL);
            }
            g.removeLastRow();
            Sentences.due("solve() after a removeLastRow too many", g.solve(), GomoryBranch.OPTIMAL);
        }
    }

    private static void programStays() {
        for (Sample s : Sample.ALL) {
            GomoryBranch g = s.make();
            int[] before = Look.withoutResult(Look.due(s));
            for (int i = 0; i < 3; i++) {
                g.solve();
                Look.same(s + ": solve() without its result", Look.withoutResult(Look.at(g)), before);
            }
        }
    }

    private static void wholeBox() {
        Program.optimal("n = 1", Program.of(9), 63, 7);
        Program.optimal("n = 2", Program.of(9, 9), 126, 7, 7);
        Program.optimal("n = 3", Program.of(-9, 9, -9), 63, 0, 7, 0);
        Program.optimal("n = 4", Program.of(9, -9, -9, 9), 126, 7, 0, 0, 7);
        Program.optimal("nothing entered", new GomoryBranch(4), 0, 0, 0, 0, 0);
        GomoryBranch rowsGone = Program.of(1, 1);
        Program.row(rowsGone, EQ, 99, 1, 1);
        Program.infeasible("before the row goes", rowsGone);
        rowsGone.removeLastRow();
        Program.optimal("the row gone", rowsGone, 14, 7, 7);
    }

    // Every box of one variable, at every place, with the objective pulling to either end of it.
    private static void boxEdges() {
        for (int n = 1; n <= 4; n++) {
            for (int v = 0; v < n; v++) {
                for (int lo = 0; lo <= 7; lo++) {
                    for (int hi = lo; hi <= 7; hi++) {
                        GomoryBranch g = new GomoryBranch(n);
                        g.setBounds(v, lo, hi);
                        int[] point = new int[n];
                        g.setObjective(v, 1);
                        point[v] = hi;
                        Program.optimal("greatest x[" + v + "] in " + lo + " .. " + hi, g, hi, point);
                        g.setObjective(v, -1);
                        point[v] = lo;
                        Program.optimal("least x[" + v + "] in " + lo + " .. " + hi, g, -lo, point);
                    }
                }
            }
        }
    }

    private static void against(int kind, int rhs, int sum, int coef, int... point) {
        boolean isMet = kind == LE ? sum <= rhs : (kind == GE ? sum >= rhs : sum == rhs);
        for (int place = 0; place < 8; place++) {
            GomoryBranch g = Program.fixed(point);
            for (int row = 0; row < 8; row++) {
                int[] coefs = new int[point.length];
                Arrays.fill(coefs, coef);
                Program.row(g, row == place ? kind : LE, row == place ? rhs : 99, row == place ? coefs : new int[0]);
            }
            int due = isMet ? GomoryBranch.OPTIMAL : GomoryBranch.INFEASIBLE;
            Sentences.due("row " + place + " of kind " + kind + " with the sum " + sum + " against " + rhs + ": solve()", g.solve(), due);
        }
    }

    // One unit to either side of the sum, for sums at 0, around it, and at the ends of rhs.
    private static void kindEdge(int kind) {
        for (int step = -1; step <= 1; step++) {
            against(kind, 6 + step, 6, 2, 3);
            against(kind, -6 + step, -6, -2, 3);
            against(kind, step, 0, 9, 0);
            against(kind, step, 0, 0, 7, 7);
            against(kind, 98 + step, 98, 7, 7, 7);
            against(kind, -98 + step, -98, -7, 7, 7);
        }
        against(kind, 99, 99, 9, 0, 0, 4, 7);
        against(kind, 98, 99, 9, 0, 0, 4, 7);
        against(kind, -99, -99, -9, 0, 0, 4, 7);
        against(kind, -98, -99, -9, 0, 0, 4, 7);
    }

    private static void everyRowCounts() {
        for (int rows = 1; rows <= 8; rows++) {
            for (int tight = 0; tight < rows; tight++) {
                GomoryBranch g = Program.of(1, 1);
                for (int row = 0; row < rows; row++) {
                    Program.row(g, LE, row == tight ? 5 : 14, 1, 1);
                }
                Program.optimal("row " + tight + " of " + rows + " is tight", g, 5, 0, 5);
            }
        }
    }

    private static void onlyPresentRowsCount() {
        for (int rows = 1; rows <= 8; rows++) {
            GomoryBranch g = Program.of(1, 1);
            for (int row = 0; row < rows; row++) {
                Program.row(g, LE, 13 - row, 1, 1);
            }
            for (int left = rows; left >= 1; left--) {
                int best = 14 - left;
                int first = Math.max(0, best - 7);
                Program.optimal(left + " rows left of " + rows, g, best, first, best - first);
                g.removeLastRow();
            }
            Program.optimal("no row left of " + rows, g, 14, 7, 7);
        }
    }

    private static void emptyLeavesZeros() {
        GomoryBranch odd = Program.of(1);
        Program.row(odd, EQ, 5, 2);
        Program.infeasible("2x == 5", odd);
        GomoryBranch crossed = Program.of(5, 5);
        Program.row(crossed, LE, 6, 1, 1);
        Program.row(crossed, GE, 7, 1, 1);
        Program.infeasible("x + y <= 6 and >= 7", crossed);
        GomoryBranch outside = Program.of(1, 1, 1, 1);
        Program.row(outside, GE, 29, 1, 1, 1, 1);
        Program.infeasible("a sum of four above 28", outside);
        GomoryBranch nothing = new GomoryBranch(3);
        nothing.addRow(LE, -1);
        Program.infeasible("0 <= -1", nothing);
        for (Sample s : Sample.of(Sample.Past.OPTIMAL)) {
            if (s.rows() < 8) {
                GomoryBranch g = s.make();
                Sentences.due(s + ": value() while optimal", g.value(), s.bestValue());
                g.addRow(GE, 1);
                Program.infeasible(s + " with 0 >= 1", g);
            }
        }
    }

    private static void onePointIsEnough() {
        for (int x = 0; x <= 7; x++) {
            for (int y = 0; y <= 7; y++) {
                GomoryBranch g = Program.of(-3, 2);
                Program.row(g, EQ, 8 * x + y, 8, 1);
                Program.optimal("8x + y == " + (8 * x + y), g, -3 * x + 2 * y, x, y);
            }
        }
        GomoryBranch corner = Program.of(-9, -9, -9, -9);
        Program.row(corner, GE, 28, 1, 1, 1, 1);
        Program.optimal("only the last point of the box", corner, -252, 7, 7, 7, 7);
        GomoryBranch first = Program.of(9, 9, 9, 9);
        Program.row(first, LE, 0, 1, 1, 1, 1);
        Program.optimal("only the first point of the box", first, 0, 0, 0, 0, 0);
    }

    private static void bestMayBeBelowZero() {
        GomoryBranch g = Program.of(-1);
        g.setBounds(0, 1, 7);
        Program.optimal("best is -1", g, -1, 1);
        GomoryBranch h = Program.of(-9, -9, -9, -9);
        for (int v = 0; v < 4; v++) {
            h.setBounds(v, 7, 7);
        }
        Program.optimal("best is the least there is", h, -252, 7, 7, 7, 7);
        GomoryBranch late = Program.of(-2, -3);
        Program.row(late, GE, 10, 1, 1);
        Program.optimal("best below 0, not at the first point", late, -23, 7, 3);
    }

    // The two variables share a sum, so every way to share it is optimal.
    private static void tieBetween(int n, int first, int second, int coef) {
        for (int sum = 0; sum <= 14; sum++) {
            GomoryBranch g = new GomoryBranch(n);
            int[] coefs = new int[n];
            coefs[first] = 1;
            coefs[second] = 1;
            g.setObjective(first, coef);
            g.setObjective(second, coef);
            Program.row(g, EQ, sum, coefs);
            int[] point = new int[n];
            point[first] = Math.max(0, sum - 7);
            point[second] = sum - point[first];
            Program.optimal("x[" + first + "] + x[" + second + "] == " + sum, g, coef * sum, point);
        }
    }

    private static void tieOnFirst() {
        for (int n = 2; n <= 4; n++) {
            for (int second = 1; second < n; second++) {
                for (int coef = -9; coef <= 9; coef += 9) {
                    tieBetween(n, 0, second, coef);
                }
            }
        }
        GomoryBranch flat = new GomoryBranch(4);
        Program.optimal("all points tie", flat, 0, 0, 0, 0, 0);
        GomoryBranch uneven = Program.of(2, 1);
        Program.row(uneven, LE, 10, 2, 1);
        Program.optimal("2x + y <= 10", uneven, 10, 2, 6);
    }

    private static void tieOnLater() {
        for (int n = 3; n <= 4; n++) {
            for (int first = 1; first < n; first++) {
                for (int second = first + 1; second < n; second++) {
                    for (int coef = -9; coef <= 9; coef += 9) {
                        tieBetween(n, first, second, coef);
                    }
                }
            }
        }
        GomoryBranch g = Program.of(1, 1, 1, 1);
        g.setBounds(0, 3, 3);
        Program.row(g, LE, 12, 1, 1, 1, 1);
        Program.optimal("equal x[0], then the smaller x[1]", g, 12, 3, 0, 2, 7);
        g.setBounds(1, 4, 4);
        Program.optimal("equal x[0] and x[1], then the smaller x[2]", g, 12, 3, 4, 0, 5);
    }

    private static void optimalLeavesResult() {
        for (Sample s : Sample.of(Sample.Past.NEVER_SOLVED)) {
            int[] point = new int[s.n()];
            for (int v = 0; v < s.n(); v++) {
                point[v] = s.best(v);
            }
            Program.optimal(s.toString(), s.make(), s.bestValue(), point);
        }
    }

    private static void optimalAfterInfeasible() {
        for (Sample s : Sample.of(Sample.Past.INFEASIBLE)) {
            GomoryBranch g = s.make();
            g.removeLastRow();
            int[] point = new int[s.n()];
            for (int v = 0; v < s.n(); v++) {
                point[v] = s.best(v);
            }
            Program.optimal(s + " with the impossible row gone", g, s.bestValue(), point);
        }
    }

    private static long seed = 0;

    private static int draw(int from, int to) {
        seed = seed * 6364136223846793005L + 1442695040888963407L;
        return from + (int) ((seed >>> 33) % (to - from + 1));
    }

    // Programs of every size, from a fixed sequence of numbers: the same ones each time.
    private static List<GomoryBranch> many() {
        List<GomoryBranch> programs = new ArrayList<>();
        seed = 20261115L;
        for (int i = 0; i < 800; i++) {
            GomoryBranch g = new GomoryBranch(1 + i % 4);
            for (int v = 0; v < g.numVars(); v++) {
                g.setObjective(v, draw(-9, 9));
                int lo = draw(0, 3);
                g.setBounds(v, lo, draw(lo, 7));
            }
            for (int rows = draw(0, 8); rows > 0; rows--) {
                drawRow(g);
            }
            g.solve();
            programs.add(g);
        }
        return programs;
    }

    // Mostly loose rows, so that programs with many rows still have feasible points.
    private static void drawRow(GomoryBranch g) {
        int[] coefs = new int[g.numVars()];
        for (int v = 0; v < coefs.length; v++) {
            coefs[v] = draw(-9, 9);
        }
        switch (draw(0, 8)) {
            case 0 -> Program.row(g, EQ, draw(-5, 5), coefs);
            case 1, 2, 3, 4 -> Program.row(g, LE, draw(0, 40), coefs);
            default -> Program.row(g, GE, draw(-40, 0), coefs);
        }
    }

    private static List<GomoryBranch> manyOf(int status) {
        List<GomoryBranch> programs = many().stream().filter(g -> g.status() == status).toList();
        Sentences.holds("at least 100 programs of status " + status, programs.size() >= 100);
        return programs;
    }

    private static void pointInBounds() {
        for (GomoryBranch g : manyOf(GomoryBranch.OPTIMAL)) {
            for (int v = 0; v < g.numVars(); v++) {
                Sentences.holds("getBound(" + v + ", 0) <= point(" + v + ")", g.getBound(v, 0) <= g.point(v));
                Sentences.holds("point(" + v + ") <= getBound(" + v + ", 1)", g.point(v) <= g.getBound(v, 1));
            }
        }
    }

    private static void pointMeetsRows() {
        for (GomoryBranch g : manyOf(GomoryBranch.OPTIMAL)) {
            int[] x = Program.answered(g);
            for (int row = 0; row < g.numRows(); row++) {
                Sentences.holds("row " + row + " at the point " + Arrays.toString(x), Program.rowHolds(g, row, x));
            }
        }
    }

    private static void valueIsThePointsSum() {
        for (GomoryBranch g : manyOf(GomoryBranch.OPTIMAL)) {
            Sentences.due("value()", g.value(), Program.objectiveAt(g, Program.answered(g)));
        }
    }

    private static void noneIsGreater() {
        for (GomoryBranch g : manyOf(GomoryBranch.OPTIMAL)) {
            int[] x = Program.firstOfBox(g);
            do {
                boolean isGreater = Program.objectiveAt(g, x) > g.value() && Program.rowsHold(g, x);
                Sentences.holds("value() " + g.value() + " against the point " + Arrays.toString(x), !isGreater);
            } while (Program.next(g, x));
        }
    }

    private static void noneIsBefore() {
        for (GomoryBranch g : manyOf(GomoryBranch.OPTIMAL)) {
            int[] x = Program.firstOfBox(g);
            int[] best = Program.answered(g);
            while (!Arrays.equals(x, best)) {
                boolean isTie = Program.objectiveAt(g, x) == g.value() && Program.rowsHold(g, x);
                Sentences.holds(Arrays.toString(best) + " before the point " + Arrays.toString(x), !isTie);
                if (!Program.next(g, x)) {
                    Sentences.holds(Arrays.toString(best) + " in the box", false);
                    break;
                }
            }
        }
    }

    private static void noneIsFeasible() {
        for (GomoryBranch g : manyOf(GomoryBranch.INFEASIBLE)) {
            int[] x = Program.firstOfBox(g);
            do {
                Sentences.holds("INFEASIBLE against the point " + Arrays.toString(x), !Program.rowsHold(g, x));
            } while (Program.next(g, x));
        }
    }

    private static void sameAgain() {
        for (GomoryBranch g : many()) {
            int[] before = Look.at(g);
            for (int i = 0; i < 3; i++) {
                Sentences.due("solve() again", g.solve(), g.status());
                Look.same("solve() again", Look.at(g), before);
            }
        }
    }

    private static void sameAfterNoChange() {
        for (Sample s : Sample.solved()) {
            GomoryBranch g = s.make();
            int[] before = Look.due(s);
            for (Call call : Calls.joined(Calls.refused(s), Calls.getters(s))) {
                call.on(g);
            }
            Sentences.due(s + ": solve() after refused calls and getters", g.solve(), s.status());
            Look.same(s + ": solve() after refused calls and getters", Look.at(g), before);
        }
    }

    private static void solveTests() {
        Sentences.test(SOLVE, "solves the current program and answers the new status", SolveBoundaryTest::answersTheNewStatus);
        Sentences.test(SOLVE, "It is never refused", SolveBoundaryTest::neverRefused);
        Sentences.test(SOLVE, "it leaves the program data unchanged (n, c, lo, hi, every row and numRows() stay as they were)",
            SolveBoundaryTest::programStays);
        Sentences.test(SOLVE, "lo[j] <= x[j] <= hi[j] for every j", SolveBoundaryTest::boxEdges);
        Sentences.test(SOLVE, "a row of kind LE requires its sum <= rhs", () -> kindEdge(LE));
        Sentences.test(SOLVE, "GE requires >=", () -> kindEdge(GE));
        Sentences.test(SOLVE, "EQ requires ==", () -> kindEdge(EQ));
        Sentences.test(SOLVE, "that satisfy every row 0 .. numRows()-1", SolveBoundaryTest::everyRowCounts);
        Sentences.test(SOLVE, "every row 0 .. numRows()-1", SolveBoundaryTest::onlyPresentRowsCount);
        Sentences.test(SOLVE, "With no rows, F is the whole box.", SolveBoundaryTest::wholeBox);
        Sentences.test(SOLVE, "If F is empty: status = INFEASIBLE, value = 0, point all 0; the answer is INFEASIBLE.",
            SolveBoundaryTest::emptyLeavesZeros);
        Sentences.test(SOLVE, "Otherwise let best be the greatest ... over F", SolveBoundaryTest::onePointIsEnough);
        Sentences.test(SOLVE, "let best be the greatest c[0]*x[0] + .. + c[n-1]*x[n-1]", SolveBoundaryTest::bestMayBeBelowZero);
        Sentences.test(SOLVE, "the lexicographically smallest point of F whose objective equals best (the smaller x[0] comes first",
            SolveBoundaryTest::tieOnFirst);
        Sentences.test(SOLVE, "on equal x[0] the smaller x[1]; and so on", SolveBoundaryTest::tieOnLater);
        Sentences.test(SOLVE, "let x* be the lexicographically smallest point of F", SolveBoundaryTest::noneIsBefore);
        Sentences.test(SOLVE, "Then status = OPTIMAL, value = best, point = x*; the answer is OPTIMAL.", SolveBoundaryTest::optimalLeavesResult);
        Sentences.test(SOLVE, "status = OPTIMAL, value = best, point = x*", SolveBoundaryTest::optimalAfterInfeasible);
    }

    private static void consequenceTests() {
        Sentences.test(SOLVE, "every point(j) lies between getBound(j,0) and getBound(j,1)", SolveBoundaryTest::pointInBounds);
        Sentences.test(SOLVE, "for every row r the sum over j of getCoef(r,j)*point(j) relates to getRhs(r) as getKind(r) demands",
            SolveBoundaryTest::pointMeetsRows);
        Sentences.test(SOLVE, "value() equals the sum over j of getObjective(j)*point(j)", SolveBoundaryTest::valueIsThePointsSum);
        Sentences.test(SOLVE, "no integer point of the box that satisfies all rows has a greater objective than value()",
            SolveBoundaryTest::noneIsGreater);
        Sentences.test(SOLVE, "Whenever status() answers INFEASIBLE, no integer point of the box satisfies all rows.",
            SolveBoundaryTest::noneIsFeasible);
        Sentences.test(SOLVE, "Calling solve() again without a change of the program gives the same result", SolveBoundaryTest::sameAgain);
        Sentences.test(SOLVE, "refused calls and getters in between do not count as changes", SolveBoundaryTest::sameAfterNoChange);
    }

    private static void freshIsUnsolved() {
        for (int vars = -1; vars <= 6; vars++) {
            Sentences.due("GomoryBranch(" + vars + ").status()", new GomoryBranch(vars).status(), GomoryBranch.UNSOLVED);
        }
    }

    private static void noOtherCallSolves() {
        for (Sample s : Sample.ALL) {
            for (Call call : Calls.accepted(s)) {
                GomoryBranch g = s.make();
                call.on(g);
                Sentences.due(s + ": " + call.text() + ", then status()", g.status(), GomoryBranch.UNSOLVED);
            }
            GomoryBranch g = s.make();
            for (Call call : Calls.joined(Calls.refused(s), Calls.getters(s))) {
                call.on(g);
                Sentences.due(s + ": " + call.text() + ", then status()", g.status(), s.status());
            }
        }
    }

    private static void statusTests() {
        Sentences.test(STATUS, "It is UNSOLVED on a fresh object", SolveBoundaryTest::freshIsUnsolved);
        Sentences.test(STATUS, "and after every accepted setObjective", () -> Sentences.becomesUnsolved(Calls::acceptedObjective));
        Sentences.test(STATUS, "and after every accepted ... setBounds", () -> Sentences.becomesUnsolved(Calls::acceptedBounds));
        Sentences.test(STATUS, "and after every accepted ... addRow", () -> Sentences.becomesUnsolved(Calls::acceptedRow));
        Sentences.test(STATUS, "and after every accepted ... setCoef", () -> Sentences.becomesUnsolved(Calls::acceptedCoef));
        Sentences.test(STATUS, "and after every accepted ... removeLastRow", () -> Sentences.becomesUnsolved(Calls::acceptedRemoval));
        Sentences.test(STATUS, "only solve() sets it to OPTIMAL or INFEASIBLE", SolveBoundaryTest::noOtherCallSolves);
        Sentences.test(STATUS, "The call changes nothing.", () -> Sentences.changesNothing(s -> List.of(Call.status(), Call.status())));
    }

    private static void bestAsValue() {
        for (Sample s : Sample.of(Sample.Past.OPTIMAL)) {
            Sentences.due(s + ": value()", s.make().value(), s.bestValue());
        }
        for (int coef = -9; coef <= 9; coef++) {
            GomoryBranch g = Program.fixed(7, 7, 7, 7);
            for (int v = 0; v < 4; v++) {
                g.setObjective(v, coef);
            }
            g.solve();
            Sentences.due("value() of four times " + coef + " * 7", g.value(), 28 * coef);
        }
    }

    private static void noValue(List<Sample> samples) {
        for (Sample s : samples) {
            Sentences.due(s + ": value()", s.make().value(), 0);
        }
    }

    private static void valueTests() {
        Sentences.test(VALUE, "answers best when status is OPTIMAL", SolveBoundaryTest::bestAsValue);
        Sentences.test(VALUE, "0 while UNSOLVED", () -> noValue(Sample.unsolved()));
        Sentences.test(VALUE, "0 while ... INFEASIBLE", () -> noValue(Sample.of(Sample.Past.INFEASIBLE)));
        Sentences.test(VALUE, "The call changes nothing.", () -> Sentences.changesNothing(s -> List.of(Call.value(), Call.value())));
    }

    private static void bestAsPoint() {
        for (Sample s : Sample.of(Sample.Past.OPTIMAL)) {
            for (int v = 0; v < s.n(); v++) {
                Sentences.due(s + ": point(" + v + ")", s.make().point(v), s.best(v));
            }
        }
        for (int x = 0; x <= 7; x++) {
            GomoryBranch g = Program.fixed(x, 7 - x, (x + 3) % 8, (x + 5) % 8);
            Program.optimal("fixed at " + x, g, 0, x, 7 - x, (x + 3) % 8, (x + 5) % 8);
        }
    }

    private static void noPoint(List<Sample> samples) {
        for (Sample s : samples) {
            for (Call call : Calls.pointAnywhere(s)) {
                Sentences.due(s + ": " + call.text(), call.on(s.make()), 0);
            }
        }
    }

    private static void noPointAt(boolean isBelow) {
        for (Sample s : Sample.ALL) {
            GomoryBranch g = s.make();
            for (int v : isBelow ? Calls.below(0) : Calls.above(s.n() - 1)) {
                Sentences.due(s + ": point(" + v + ")", g.point(v), 0);
            }
        }
    }

    private static void pointTests() {
        Sentences.test(POINT, "answers x*[v] when status is OPTIMAL and 0 <= v < n", SolveBoundaryTest::bestAsPoint);
        Sentences.test(POINT, "So it answers 0 for any v while status is UNSOLVED", () -> noPoint(Sample.unsolved()));
        Sentences.test(POINT, "So it answers 0 for any v while status is ... INFEASIBLE", () -> noPoint(Sample.of(Sample.Past.INFEASIBLE)));
        Sentences.test(POINT, "0 for v < 0 ... in every state", () -> noPointAt(true));
        Sentences.test(POINT, "0 for ... v >= n in every state", () -> noPointAt(false));
        Sentences.test(POINT, "The call changes nothing.", () -> Sentences.changesNothing(Calls::pointAnywhere));
    }

    public static void main(String[] args) {
        solveTests();
        consequenceTests();
        statusTests();
        valueTests();
        pointTests();
        Sentences.end();
    }
}
