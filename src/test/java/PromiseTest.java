// One method for each promise of the document: ordinary inputs, the edges it names, wrong inputs.
public final class PromiseTest {
    private static final int MIN = Integer.MIN_VALUE;
    private static final int MAX = Integer.MAX_VALUE;

    private static final int[] BAD_ROWS = {MIN, -1, 8, 9, MAX};
    private static final int[] BAD_COEFS = {MIN, -100, -10, 10, 100, MAX};
    private static final int[] BAD_KINDS = {MIN, -1, 0, 4, 7, MAX};
    private static final int[] BAD_RHS = {MIN, -1000, -100, 100, 1000, MAX};

    private static int wrong = 0;
    private static int promise = 0;

    private static void due(String call, long got, long want) {
        if (got != want) {
            wrong++;
            System.out.println("promise " + promise + ": " + call + " answered " + got + ", due is " + want);
        }
    }

    private static void due(String call, boolean got, boolean want) {
        due(call, got ? 1 : 0, want ? 1 : 0);
    }

    private static void same(String call, String got, String want) {
        if (!got.equals(want)) {
            wrong++;
            System.out.println("promise " + promise + ": after " + call + " the object is\n  " + got + "\ndue is\n  " + want);
        }
    }

    // Program data alone: what solve() must leave as it was.
    private static String program(GomoryBranch g) {
        StringBuilder s = new StringBuilder();
        s.append("n=").append(g.numVars()).append(" rows=").append(g.numRows());
        for (int v = -1; v <= 4; v++) {
            s.append(" c").append(v).append('=').append(g.getObjective(v));
            s.append('[').append(g.getBound(v, 0)).append("..").append(g.getBound(v, 1)).append(']');
        }
        for (int r = -1; r <= 8; r++) {
            s.append(" | ").append(g.getKind(r)).append(' ').append(g.getRhs(r)).append(':');
            for (int v = -1; v <= 4; v++) {
                s.append(' ').append(g.getCoef(r, v));
            }
        }
        return s.toString();
    }

    private static String result(GomoryBranch g) {
        StringBuilder s = new StringBuilder();
        s.append("status=").append(g.status()).append(" value=").append(g.value()).append(" point=");
        for (int v = -1; v <= 4; v++) {
            s.append(' ').append(g.point(v));
        }
        return s.toString();
    }

    private static String all(GomoryBranch g) {
        return program(g) + " # " + result(g);
    }

    private static void row(GomoryBranch g, int kind, int rhs, int... coefs) {
        int r = g.addRow(kind, rhs);
        due("addRow(" + kind + ", " + rhs + ") as a free row", r, g.numRows() - 1);
        for (int v = 0; v < coefs.length; v++) {
            due("setCoef(" + r + ", " + v + ", " + coefs[v] + ")", g.setCoef(r, v, coefs[v]), true);
        }
    }

    private static void objective(GomoryBranch g, int... coefs) {
        for (int v = 0; v < coefs.length; v++) {
            due("setObjective(" + v + ", " + coefs[v] + ")", g.setObjective(v, coefs[v]), true);
        }
    }

    private static void optimal(String name, GomoryBranch g, int value, int... point) {
        String before = program(g);
        due(name + ": solve()", g.solve(), GomoryBranch.OPTIMAL);
        due(name + ": status()", g.status(), GomoryBranch.OPTIMAL);
        due(name + ": value()", g.value(), value);
        for (int v = 0; v < point.length; v++) {
            due(name + ": point(" + v + ")", g.point(v), point[v]);
        }
        same(name + ": solve()", program(g), before);
    }

    private static void infeasible(String name, GomoryBranch g) {
        String before = program(g);
        due(name + ": solve()", g.solve(), GomoryBranch.INFEASIBLE);
        due(name + ": status()", g.status(), GomoryBranch.INFEASIBLE);
        due(name + ": value()", g.value(), 0);
        for (int v = -1; v <= 4; v++) {
            due(name + ": point(" + v + ")", g.point(v), 0);
        }
        same(name + ": solve()", program(g), before);
    }

    // Two variables, two rows, a unique optimum 9 at (3, 1) with nothing equal to 0.
    private static GomoryBranch sample() {
        GomoryBranch g = new GomoryBranch(2);
        objective(g, 2, 3);
        g.setBounds(0, 1, 6);
        g.setBounds(1, 1, 5);
        row(g, GomoryBranch.LE, 7, 2, 1);
        row(g, GomoryBranch.GE, 2, 1, -1);
        return g;
    }

    private static GomoryBranch solvedSample() {
        GomoryBranch g = sample();
        optimal("sample", g, 9, 3, 1);
        return g;
    }

    private static GomoryBranch infeasibleSample() {
        GomoryBranch g = sample();
        row(g, GomoryBranch.EQ, 99, 1, 1);
        infeasible("infeasible sample", g);
        return g;
    }

    private static GomoryBranch[] oneOfEachStatus() {
        return new GomoryBranch[] {sample(), solvedSample(), infeasibleSample()};
    }

    private static void unsolved(String call, GomoryBranch g) {
        same(call, result(g), "status=0 value=0 point= 0 0 0 0 0 0");
    }

    private static void promise1() {
        int[] asked = {MIN, -5, -1, 0, 1, 2, 3, 4, 5, 9, MAX};
        int[] given = {1, 1, 1, 1, 1, 2, 3, 4, 4, 4, 4};
        for (int i = 0; i < asked.length; i++) {
            String name = "GomoryBranch(" + asked[i] + ")";
            GomoryBranch g = new GomoryBranch(asked[i]);
            due(name + ".numVars()", g.numVars(), given[i]);
            due(name + ".numRows()", g.numRows(), 0);
            due(name + ".status()", g.status(), GomoryBranch.UNSOLVED);
            due(name + ".value()", g.value(), 0);
            for (int v = 0; v < given[i]; v++) {
                due(name + ".getObjective(" + v + ")", g.getObjective(v), 0);
                due(name + ".getBound(" + v + ", 0)", g.getBound(v, 0), 0);
                due(name + ".getBound(" + v + ", 1)", g.getBound(v, 1), 7);
                due(name + ".point(" + v + ")", g.point(v), 0);
            }
        }
        GomoryBranch first = solvedSample();
        String before = all(first);
        GomoryBranch second = new GomoryBranch(4);
        second.setObjective(0, 5);
        second.addRow(GomoryBranch.EQ, 1);
        second.solve();
        same("work on another object", all(first), before);
    }

    private static void promise2() {
        for (int n = 1; n <= 4; n++) {
            GomoryBranch g = new GomoryBranch(n);
            g.setObjective(0, 1);
            g.setBounds(0, 2, 3);
            due("numVars() after setters", g.numVars(), n);
            row(g, GomoryBranch.LE, 20, 1);
            due("numVars() with a row", g.numVars(), n);
            g.solve();
            due("numVars() after solve()", g.numVars(), n);
            g.removeLastRow();
            due("numVars() after removeLastRow()", g.numVars(), n);
        }
        GomoryBranch g = solvedSample();
        String before = all(g);
        g.numVars();
        same("numVars()", all(g), before);
    }

    private static void promise3() {
        GomoryBranch g = new GomoryBranch(2);
        for (int r = 0; r < 8; r++) {
            due("numRows()", g.numRows(), r);
            g.addRow(GomoryBranch.LE, r);
        }
        due("numRows() when full", g.numRows(), 8);
        g.addRow(GomoryBranch.LE, 1);
        due("numRows() after an addRow too many", g.numRows(), 8);
        g.setCoef(7, 0, 1);
        g.setObjective(0, 1);
        g.setBounds(0, 0, 1);
        g.solve();
        due("numRows() after other calls", g.numRows(), 8);
        for (int r = 7; r >= 0; r--) {
            g.removeLastRow();
            due("numRows() after removeLastRow()", g.numRows(), r);
        }
        g.removeLastRow();
        due("numRows() after a removeLastRow too many", g.numRows(), 0);
        g.addRow(0, 1);
        g.addRow(GomoryBranch.LE, 100);
        due("numRows() after refused addRow", g.numRows(), 0);
        GomoryBranch solved = solvedSample();
        String before = all(solved);
        solved.numRows();
        same("numRows()", all(solved), before);
    }

    private static void promise4() {
        for (int n = 1; n <= 4; n++) {
            GomoryBranch g = new GomoryBranch(n);
            for (int v = 0; v < n; v++) {
                for (int coef = -9; coef <= 9; coef++) {
                    due("setObjective(" + v + ", " + coef + ")", g.setObjective(v, coef), true);
                    due("getObjective(" + v + ")", g.getObjective(v), coef);
                }
            }
        }
        for (GomoryBranch g : oneOfEachStatus()) {
            String before = all(g);
            for (int v : new int[] {MIN, -1, 2, 3, 4, MAX}) {
                due("setObjective(" + v + ", 1)", g.setObjective(v, 1), false);
            }
            for (int coef : BAD_COEFS) {
                due("setObjective(0, " + coef + ")", g.setObjective(0, coef), false);
                due("setObjective(1, " + coef + ")", g.setObjective(1, coef), false);
            }
            same("refused setObjective", all(g), before);
            String programBefore = program(g);
            due("setObjective(0, 2) as it was", g.setObjective(0, 2), true);
            same("setObjective to the same", program(g), programBefore);
            unsolved("setObjective to the same", g);
            g.setObjective(1, -4);
            same("setObjective(1, -4)", program(g), programBefore.replace("c1=3", "c1=-4"));
        }
    }

    private static void promise5() {
        for (int n = 1; n <= 4; n++) {
            GomoryBranch g = new GomoryBranch(n);
            for (int v = -2; v <= 5; v++) {
                boundsOf(g, v);
            }
        }
        for (GomoryBranch g : oneOfEachStatus()) {
            String before = all(g);
            int[][] bad = {{-1, 0, 1}, {2, 0, 1}, {MIN, 0, 1}, {MAX, 0, 1}, {0, -1, 3}, {0, 0, 8}, {0, 4, 3},
                {0, MIN, 3}, {0, 3, MAX}, {1, MIN, MAX}, {1, MAX, MIN}, {1, 8, 8}, {1, -1, -1}, {1, 7, 0}};
            for (int[] b : bad) {
                due("setBounds(" + b[0] + ", " + b[1] + ", " + b[2] + ")", g.setBounds(b[0], b[1], b[2]), false);
            }
            same("refused setBounds", all(g), before);
            String programBefore = program(g);
            due("setBounds(0, 1, 6) as it was", g.setBounds(0, 1, 6), true);
            same("setBounds to the same", program(g), programBefore);
            unsolved("setBounds to the same", g);
            g.setBounds(1, 4, 4);
            same("setBounds(1, 4, 4)", program(g), programBefore.replace("c1=3[1..5]", "c1=3[4..4]"));
        }
    }

    private static void boundsOf(GomoryBranch g, int v) {
        boolean isVar = v >= 0 && v < g.numVars();
        int oldLo = g.getBound(v, 0);
        int oldHi = g.getBound(v, 1);
        for (int lo = -2; lo <= 9; lo++) {
            for (int hi = -2; hi <= 9; hi++) {
                boolean ok = isVar && 0 <= lo && lo <= hi && hi <= 7;
                due("setBounds(" + v + ", " + lo + ", " + hi + ")", g.setBounds(v, lo, hi), ok);
                oldLo = ok ? lo : oldLo;
                oldHi = ok ? hi : oldHi;
                due("getBound(" + v + ", 0)", g.getBound(v, 0), oldLo);
                due("getBound(" + v + ", 1)", g.getBound(v, 1), oldHi);
            }
        }
    }

    private static void promise6() {
        GomoryBranch g = new GomoryBranch(4);
        int[] rhs = {-99, 99, 0, 1, -1, 50, -50, 98};
        for (int r = 0; r < 8; r++) {
            int kind = 1 + r % 3;
            due("addRow(" + kind + ", " + rhs[r] + ")", g.addRow(kind, rhs[r]), r);
            due("numRows()", g.numRows(), r + 1);
            due("getKind(" + r + ")", g.getKind(r), kind);
            due("getRhs(" + r + ")", g.getRhs(r), rhs[r]);
            for (int v = 0; v < 4; v++) {
                due("getCoef(" + r + ", " + v + ")", g.getCoef(r, v), 0);
                g.setCoef(r, v, r + 1);
            }
        }
        for (int r = 0; r < 8; r++) {
            due("getKind(" + r + ") when full", g.getKind(r), 1 + r % 3);
            due("getRhs(" + r + ") when full", g.getRhs(r), rhs[r]);
            due("getCoef(" + r + ", 3) when full", g.getCoef(r, 3), r + 1);
        }
        g.solve();
        String full = all(g);
        due("addRow when full", g.addRow(GomoryBranch.GE, 0), -1);
        same("addRow when full", all(g), full);
        for (GomoryBranch s : oneOfEachStatus()) {
            addRowOn(s);
        }
    }

    private static void addRowOn(GomoryBranch g) {
        String before = all(g);
        for (int kind : BAD_KINDS) {
            due("addRow(" + kind + ", 0)", g.addRow(kind, 0), -1);
        }
        for (int rhs : BAD_RHS) {
            due("addRow(1, " + rhs + ")", g.addRow(GomoryBranch.LE, rhs), -1);
        }
        same("refused addRow", all(g), before);
        int r = g.numRows();
        due("addRow(3, 42)", g.addRow(GomoryBranch.EQ, 42), r);
        unsolved("addRow", g);
        due("getObjective(0)", g.getObjective(0), 2);
        due("getObjective(1)", g.getObjective(1), 3);
        due("getBound(0, 0)", g.getBound(0, 0), 1);
        due("getBound(1, 1)", g.getBound(1, 1), 5);
        due("getRhs(0)", g.getRhs(0), 7);
        due("getCoef(1, 1)", g.getCoef(1, 1), -1);
        g.removeLastRow();
        same("addRow and removeLastRow", program(g), before.substring(0, before.indexOf(" # ")));
    }

    private static void promise7() {
        GomoryBranch none = new GomoryBranch(3);
        due("setCoef(0, 0, 1) without rows", none.setCoef(0, 0, 1), false);
        none.solve();
        String solvedNone = all(none);
        due("setCoef(0, 0, 0) without rows", none.setCoef(0, 0, 0), false);
        same("setCoef without rows", all(none), solvedNone);
        everyCellIsItsOwn();
        for (GomoryBranch g : oneOfEachStatus()) {
            String before = all(g);
            for (int r : new int[] {MIN, -1, g.numRows(), g.numRows() + 1, 7, 8, MAX}) {
                due("setCoef(" + r + ", 0, 1)", g.setCoef(r, 0, 1), false);
            }
            for (int v : new int[] {MIN, -1, 2, 3, 4, MAX}) {
                due("setCoef(0, " + v + ", 1)", g.setCoef(0, v, 1), false);
                due("setCoef(1, " + v + ", 1)", g.setCoef(1, v, 1), false);
            }
            for (int coef : BAD_COEFS) {
                due("setCoef(0, 0, " + coef + ")", g.setCoef(0, 0, coef), false);
                due("setCoef(1, 1, " + coef + ")", g.setCoef(1, 1, coef), false);
            }
            same("refused setCoef", all(g), before);
            String programBefore = program(g);
            due("setCoef(1, 1, -1) as it was", g.setCoef(1, 1, -1), true);
            same("setCoef to the same", program(g), programBefore);
            unsolved("setCoef to the same", g);
            due("setCoef(0, 1, -8)", g.setCoef(0, 1, -8), true);
            same("setCoef(0, 1, -8)", program(g), programBefore.replace("1 7: 0 2 1", "1 7: 0 2 -8"));
        }
    }

    private static void everyCellIsItsOwn() {
        GomoryBranch g = new GomoryBranch(4);
        for (int r = 0; r < 8; r++) {
            g.addRow(GomoryBranch.GE, r);
        }
        for (int r = 0; r < 8; r++) {
            for (int v = 0; v < 4; v++) {
                due("setCoef(" + r + ", " + v + ", -9)", g.setCoef(r, v, -9), true);
                due("setCoef(" + r + ", " + v + ", 9)", g.setCoef(r, v, 9), true);
                due("setCoef", g.setCoef(r, v, (r * 4 + v) % 19 - 9), true);
            }
        }
        for (int r = 0; r < 8; r++) {
            due("getRhs(" + r + ")", g.getRhs(r), r);
            due("getKind(" + r + ")", g.getKind(r), GomoryBranch.GE);
            for (int v = 0; v < 4; v++) {
                due("getCoef(" + r + ", " + v + ")", g.getCoef(r, v), (r * 4 + v) % 19 - 9);
            }
        }
    }

    private static void promise8() {
        GomoryBranch none = new GomoryBranch(2);
        due("removeLastRow() without rows", none.removeLastRow(), false);
        none.setObjective(0, 3);
        none.solve();
        String before = all(none);
        due("removeLastRow() without rows", none.removeLastRow(), false);
        same("refused removeLastRow", all(none), before);
        for (GomoryBranch g : oneOfEachStatus()) {
            int last = g.numRows() - 1;
            due("removeLastRow()", g.removeLastRow(), true);
            unsolved("removeLastRow()", g);
            due("numRows()", g.numRows(), last);
            due("getKind of the removed", g.getKind(last), 0);
            due("getRhs of the removed", g.getRhs(last), 0);
            due("getCoef of the removed", g.getCoef(last, 0), 0);
            due("setCoef of the removed", g.setCoef(last, 0, 1), false);
            due("getRhs(0)", g.getRhs(0), 7);
            due("getKind(0)", g.getKind(0), GomoryBranch.LE);
            due("getCoef(0, 0)", g.getCoef(0, 0), 2);
            due("getObjective(1)", g.getObjective(1), 3);
            due("getBound(0, 1)", g.getBound(0, 1), 6);
            due("addRow again", g.addRow(GomoryBranch.EQ, -7), last);
            due("getKind of the new", g.getKind(last), GomoryBranch.EQ);
            due("getRhs of the new", g.getRhs(last), -7);
            due("getCoef of the new", g.getCoef(last, 0), 0);
            due("getCoef of the new", g.getCoef(last, 1), 0);
        }
        removedRowNoLongerBinds();
    }

    private static void removedRowNoLongerBinds() {
        GomoryBranch g = new GomoryBranch(1);
        g.setObjective(0, 1);
        row(g, GomoryBranch.LE, 3, 1);
        optimal("x <= 3", g, 3, 3);
        g.removeLastRow();
        optimal("row gone", g, 7, 7);
        g.addRow(GomoryBranch.LE, 3);
        optimal("0 <= 3", g, 7, 7);
    }

    private static void promise9() {
        GomoryBranch box = new GomoryBranch(4);
        optimal("fresh", box, 0, 0, 0, 0, 0);
        objective(box, 9, -9, 9, 0);
        optimal("whole box", box, 126, 7, 0, 7, 0);
        objective(box, 9, 9, 9, 9);
        optimal("greatest value", box, 252, 7, 7, 7, 7);
        for (int v = 0; v < 4; v++) {
            box.setBounds(v, 7, 7);
        }
        objective(box, -9, -9, -9, -9);
        optimal("least value", box, -252, 7, 7, 7, 7);

        GomoryBranch negative = new GomoryBranch(2);
        objective(negative, -2, -3);
        negative.setBounds(0, 2, 5);
        negative.setBounds(1, 1, 4);
        optimal("best below 0", negative, -7, 2, 1);
        row(negative, GomoryBranch.GE, 5, 1, 1);
        optimal("best below 0 with a row", negative, -11, 4, 1);
        solveTies();
        solveKinds();
        solveAgain();
        solveManyRows();
    }

    private static void solveTies() {
        GomoryBranch g = new GomoryBranch(4);
        objective(g, 1, 1, 1, 1);
        row(g, GomoryBranch.LE, 9, 1, 1, 1, 1);
        optimal("ties go to the smaller x[0] first", g, 9, 0, 0, 2, 7);
        g.setBounds(3, 0, 1);
        optimal("ties with x[3] <= 1", g, 9, 0, 1, 7, 1);
        objective(g, 0, 0, 0, 0);
        g.setBounds(1, 3, 6);
        optimal("all points tie", g, 0, 0, 3, 0, 0);
        GomoryBranch h = new GomoryBranch(2);
        objective(h, 2, 1);
        row(h, GomoryBranch.LE, 10, 2, 1);
        optimal("2x + y", h, 10, 2, 6);
    }

    private static void solveKinds() {
        int[] values = {3, 7, 3};
        for (int kind = GomoryBranch.LE; kind <= GomoryBranch.EQ; kind++) {
            GomoryBranch g = new GomoryBranch(1);
            objective(g, 1);
            row(g, kind, 6, 2);
            optimal("2x of kind " + kind + " against 6", g, values[kind - 1], values[kind - 1]);
            objective(g, -1);
            int least = kind == GomoryBranch.LE ? 0 : 3;
            optimal("least x of kind " + kind, g, -least, least);
        }
        GomoryBranch odd = new GomoryBranch(1);
        row(odd, GomoryBranch.EQ, 5, 2);
        infeasible("2x == 5", odd);
        GomoryBranch empty = new GomoryBranch(3);
        empty.addRow(GomoryBranch.GE, 1);
        infeasible("0 >= 1", empty);
        empty.removeLastRow();
        empty.addRow(GomoryBranch.LE, -1);
        infeasible("0 <= -1", empty);
        empty.removeLastRow();
        empty.addRow(GomoryBranch.EQ, 1);
        infeasible("0 == 1", empty);
        empty.removeLastRow();
        empty.addRow(GomoryBranch.EQ, 0);
        optimal("0 == 0", empty, 0, 0, 0, 0);
        GomoryBranch edge = new GomoryBranch(4);
        row(edge, GomoryBranch.GE, 99, 9, 9, 9, 9);
        optimal("9 times the sum >= 99", edge, 0, 0, 0, 4, 7);
        row(edge, GomoryBranch.LE, -99, -9, -9, -9, -9);
        optimal("and -9 times the sum <= -99", edge, 0, 0, 0, 4, 7);
        row(edge, GomoryBranch.EQ, 99, 9, 9, 9, 9);
        optimal("and exactly 99", edge, 0, 0, 0, 4, 7);
        // The point of the relaxation rounds to nothing feasible here.
        GomoryBranch gap = new GomoryBranch(2);
        row(gap, GomoryBranch.EQ, 1, 6, -9);
        infeasible("6x - 9y == 1", gap);
    }

    private static void solveAgain() {
        for (GomoryBranch g : new GomoryBranch[] {solvedSample(), infeasibleSample()}) {
            String before = all(g);
            g.solve();
            same("solve() again", all(g), before);
            g.setCoef(9, 0, 1);
            g.setObjective(0, 10);
            g.solve();
            same("solve() after refused calls", all(g), before);
        }
        GomoryBranch g = infeasibleSample();
        g.removeLastRow();
        optimal("feasible again", g, 9, 3, 1);
        row(g, GomoryBranch.EQ, 99, 1, 1);
        infeasible("and infeasible after an optimum", g);
    }

    private static void solveManyRows() {
        GomoryBranch g = new GomoryBranch(4);
        objective(g, 5, 4, 3, 2);
        for (int r = 0; r < 7; r++) {
            row(g, GomoryBranch.LE, 99, 1, 1, 1, 1);
        }
        optimal("seven loose rows", g, 98, 7, 7, 7, 7);
        row(g, GomoryBranch.LE, 5, 2, 3, 1, 1);
        optimal("the eighth row binds", g, 15, 0, 0, 5, 0);
    }

    private static void promise10() {
        GomoryBranch g = new GomoryBranch(2);
        due("status() when fresh", g.status(), GomoryBranch.UNSOLVED);
        for (int change = 0; change < 5; change++) {
            g = solvedSample();
            due("status() after solve()", g.status(), GomoryBranch.OPTIMAL);
            accepted(g, change);
            due("status() after change " + change, g.status(), GomoryBranch.UNSOLVED);
            g = infeasibleSample();
            due("status() after solve()", g.status(), GomoryBranch.INFEASIBLE);
            accepted(g, change);
            due("status() after change " + change, g.status(), GomoryBranch.UNSOLVED);
        }
        for (GomoryBranch s : oneOfEachStatus()) {
            String before = all(s);
            s.status();
            same("status()", all(s), before);
        }
    }

    private static void accepted(GomoryBranch g, int change) {
        switch (change) {
            case 0: due("setObjective", g.setObjective(1, 3), true); break;
            case 1: due("setBounds", g.setBounds(1, 1, 5), true); break;
            case 2: due("addRow", g.addRow(GomoryBranch.LE, 99) >= 0, true); break;
            case 3: due("setCoef", g.setCoef(0, 0, 2), true); break;
            default: due("removeLastRow", g.removeLastRow(), true); break;
        }
    }

    private static void promise11() {
        GomoryBranch g = solvedSample();
        due("value()", g.value(), 9);
        due("value() again", g.value(), 9);
        due("status() after value()", g.status(), GomoryBranch.OPTIMAL);
        for (int change = 0; change < 5; change++) {
            g = solvedSample();
            accepted(g, change);
            due("value() after change " + change, g.value(), 0);
        }
        due("value() when infeasible", infeasibleSample().value(), 0);
        due("value() when unsolved", sample().value(), 0);
        GomoryBranch low = new GomoryBranch(1);
        low.setObjective(0, -9);
        low.setBounds(0, 7, 7);
        low.solve();
        due("value() below 0", low.value(), -63);
    }

    private static void promise12() {
        for (int n = 1; n <= 4; n++) {
            GomoryBranch g = new GomoryBranch(n);
            for (int v = 0; v < n; v++) {
                g.setBounds(v, v + 2, v + 3);
            }
            g.solve();
            for (int v = 0; v < n; v++) {
                due("point(" + v + ")", g.point(v), v + 2);
            }
            for (int v : new int[] {MIN, -100, -2, -1, n, n + 1, 4, 5, 100, MAX}) {
                due("point(" + v + ") with n = " + n, g.point(v), 0);
            }
            due("status() after point", g.status(), GomoryBranch.OPTIMAL);
            g.setObjective(0, 0);
            for (int v = -1; v <= 4; v++) {
                due("point(" + v + ") when unsolved", g.point(v), 0);
            }
        }
        for (int change = 0; change < 5; change++) {
            GomoryBranch g = solvedSample();
            accepted(g, change);
            unsolved("change " + change, g);
        }
        GomoryBranch g = infeasibleSample();
        for (int v : new int[] {MIN, -1, 0, 1, 2, MAX}) {
            due("point(" + v + ") when infeasible", g.point(v), 0);
        }
    }

    private static void promise13() {
        for (GomoryBranch g : oneOfEachStatus()) {
            String before = all(g);
            due("getCoef(0, 0)", g.getCoef(0, 0), 2);
            due("getCoef(0, 1)", g.getCoef(0, 1), 1);
            due("getCoef(1, 0)", g.getCoef(1, 0), 1);
            due("getCoef(1, 1)", g.getCoef(1, 1), -1);
            for (int r : new int[] {MIN, -1, g.numRows(), 8, MAX}) {
                due("getCoef(" + r + ", 0)", g.getCoef(r, 0), 0);
            }
            for (int v : new int[] {MIN, -1, 2, 3, 4, 5, MAX}) {
                due("getCoef(0, " + v + ")", g.getCoef(0, v), 0);
                due("getCoef(1, " + v + ")", g.getCoef(1, v), 0);
            }
            due("getCoef(MIN, MAX)", g.getCoef(MIN, MAX), 0);
            same("getCoef", all(g), before);
        }
    }

    private static void promise14() {
        for (GomoryBranch g : oneOfEachStatus()) {
            String before = all(g);
            due("getRhs(0)", g.getRhs(0), 7);
            due("getRhs(1)", g.getRhs(1), 2);
            due("getRhs(numRows())", g.getRhs(g.numRows()), 0);
            for (int r : BAD_ROWS) {
                due("getRhs(" + r + ")", g.getRhs(r), 0);
            }
            same("getRhs", all(g), before);
        }
        GomoryBranch full = fullOfRows();
        for (int r = 0; r < 8; r++) {
            due("getRhs(" + r + ")", full.getRhs(r), 20 - r * 7);
        }
        due("getRhs(8)", full.getRhs(8), 0);
    }

    private static void promise15() {
        for (GomoryBranch g : oneOfEachStatus()) {
            String before = all(g);
            due("getKind(0)", g.getKind(0), GomoryBranch.LE);
            due("getKind(1)", g.getKind(1), GomoryBranch.GE);
            due("getKind(numRows())", g.getKind(g.numRows()), 0);
            for (int r : BAD_ROWS) {
                due("getKind(" + r + ")", g.getKind(r), 0);
            }
            same("getKind", all(g), before);
        }
        GomoryBranch full = fullOfRows();
        for (int r = 0; r < 8; r++) {
            due("getKind(" + r + ")", full.getKind(r), 3 - r % 3);
        }
        due("getKind(8)", full.getKind(8), 0);
    }

    private static GomoryBranch fullOfRows() {
        GomoryBranch g = new GomoryBranch(1);
        for (int r = 0; r < 8; r++) {
            due("addRow", g.addRow(3 - r % 3, 20 - r * 7), r);
        }
        return g;
    }

    private static void promise16() {
        for (int n = 1; n <= 4; n++) {
            GomoryBranch g = new GomoryBranch(n);
            for (int v = 0; v < n; v++) {
                g.setObjective(v, 9 - 5 * v);
            }
            g.solve();
            String before = all(g);
            for (int v = 0; v < n; v++) {
                due("getObjective(" + v + ")", g.getObjective(v), 9 - 5 * v);
            }
            for (int v : new int[] {MIN, -1, n, 4, 5, MAX}) {
                due("getObjective(" + v + ") with n = " + n, g.getObjective(v), 0);
            }
            same("getObjective", all(g), before);
        }
    }

    private static void promise17() {
        for (int n = 1; n <= 4; n++) {
            GomoryBranch g = new GomoryBranch(n);
            for (int v = 0; v < n; v++) {
                g.setBounds(v, v + 1, v + 4);
            }
            g.solve();
            String before = all(g);
            for (int v = 0; v < n; v++) {
                due("getBound(" + v + ", 0)", g.getBound(v, 0), v + 1);
                due("getBound(" + v + ", 1)", g.getBound(v, 1), v + 4);
                for (int which : new int[] {MIN, -1, 2, 3, MAX}) {
                    due("getBound(" + v + ", " + which + ")", g.getBound(v, which), 0);
                }
            }
            for (int v : new int[] {MIN, -1, n, 4, 5, MAX}) {
                for (int which = -1; which <= 2; which++) {
                    due("getBound(" + v + ", " + which + ") with n = " + n, g.getBound(v, which), 0);
                }
            }
            same("getBound", all(g), before);
        }
    }

    private static void runPromise(int number) {
        promise = number;
        switch (number) {
            case 1: promise1(); break;
            case 2: promise2(); break;
            case 3: promise3(); break;
            case 4: promise4(); break;
            case 5: promise5(); break;
            case 6: promise6(); break;
            case 7: promise7(); break;
            case 8: promise8(); break;
            case 9: promise9(); break;
            case 10: promise10(); break;
            case 11: promise11(); break;
            case 12: promise12(); break;
            case 13: promise13(); break;
            case 14: promise14(); break;
            case 15: promise15(); break;
            case 16: promise16(); break;
            default: promise17(); break;
        }
    }

    public static void main(String[] args) {
        for (int number = 1; number <= 17; number++) {
            runPromise(number);
        }
        System.out.println(wrong == 0 ? "all promises hold" : wrong + " answers are not as due");
        if (wrong != 0) {
            System.exit(1);
        }
    }
}
