// Promises 4 to 8: the calls that change the program.
public final class ChangeBoundaryTest {
    private static final String OBJECTIVE = "Promise 4";
    private static final String BOUNDS = "Promise 5";
    private static final String ADD = "Promise 6";
    private static final String COEF = "Promise 7";
    private static final String REMOVE = "Promise 8";

    // The call changes what the given look says, and its result is gone; all else stays.
    private static void changesOnly(Sample s, Call call, int[] due) {
        GomoryBranch g = s.make();
        call.on(g);
        Look.same(s + ": " + call.text(), Look.at(g), Look.withoutResult(due));
    }

    private static void objectiveStored() {
        for (int n = 1; n <= 4; n++) {
            GomoryBranch g = new GomoryBranch(n);
            for (int v = 0; v < n; v++) {
                for (int coef = -9; coef <= 9; coef++) {
                    g.setObjective(v, coef);
                    Sentences.due("setObjective(" + v + ", " + coef + "), then getObjective(" + v + ")", g.getObjective(v), coef);
                }
            }
        }
    }

    private static void objectiveAlone() {
        for (Sample s : Sample.ALL) {
            int[] before = Look.due(s);
            for (int v = 0; v < s.n(); v++) {
                for (int coef : new int[] {-9, 0, 9}) {
                    changesOnly(s, Call.setObjective(v, coef), Look.with(before, Call.getObjective(v), coef));
                }
            }
        }
    }

    private static void objectiveTests() {
        Sentences.test(OBJECTIVE, "Refused, answering false, when v < 0", () -> Sentences.refuses(0, Calls::objectiveVarBelow));
        Sentences.test(OBJECTIVE, "Refused, answering false, when ... v >= n", () -> Sentences.refuses(0, Calls::objectiveVarAbove));
        Sentences.test(OBJECTIVE, "Refused, answering false, ... when coef < -9", () -> Sentences.refuses(0, Calls::objectiveCoefBelow));
        Sentences.test(OBJECTIVE, "Refused, answering false, ... coef > 9", () -> Sentences.refuses(0, Calls::objectiveCoefAbove));
        Sentences.test(OBJECTIVE, "A refused call changes nothing, including status.",
            () -> Sentences.changesNothing(Calls::refusedObjective));
        Sentences.test(OBJECTIVE, "Otherwise it stores coef as c[v]", ChangeBoundaryTest::objectiveStored);
        Sentences.test(OBJECTIVE, "sets status to UNSOLVED", () -> Sentences.becomesUnsolved(Calls::acceptedObjective));
        Sentences.test(OBJECTIVE, "even if c[v] already equalled coef", () -> Sentences.becomesUnsolved(Calls::sameObjective));
        Sentences.test(OBJECTIVE, "and answers true", () -> Sentences.accepts(1, Calls::acceptedObjective));
        Sentences.test(OBJECTIVE, "No other objective coefficient, no bound, no row and no row count changes.",
            ChangeBoundaryTest::objectiveAlone);
    }

    private static void boundsStored() {
        for (int n = 1; n <= 4; n++) {
            GomoryBranch g = new GomoryBranch(n);
            for (int v = 0; v < n; v++) {
                for (int lo = 0; lo <= 7; lo++) {
                    for (int hi = lo; hi <= 7; hi++) {
                        g.setBounds(v, lo, hi);
                        String call = "setBounds(" + v + ", " + lo + ", " + hi + ")";
                        Sentences.due(call + ", then getBound(" + v + ", 0)", g.getBound(v, 0), lo);
                        Sentences.due(call + ", then getBound(" + v + ", 1)", g.getBound(v, 1), hi);
                    }
                }
            }
        }
    }

    private static void boundsAlone() {
        for (Sample s : Sample.ALL) {
            int[] before = Look.due(s);
            for (int v = 0; v < s.n(); v++) {
                for (int[] pair : new int[][] {{0, 7}, {0, 0}, {7, 7}, {4, 5}}) {
                    int[] due = Look.with(before, Call.getBound(v, 0), pair[0]);
                    due = Look.with(due, Call.getBound(v, 1), pair[1]);
                    changesOnly(s, Call.setBounds(v, pair[0], pair[1]), due);
                }
            }
        }
    }

    private static void boundsTests() {
        Sentences.test(BOUNDS, "Refused, answering false, when v < 0", () -> Sentences.refuses(0, Calls::boundsVarBelow));
        Sentences.test(BOUNDS, "Refused, answering false, when ... v >= n", () -> Sentences.refuses(0, Calls::boundsVarAbove));
        Sentences.test(BOUNDS, "So lo < 0, ... are all refused", () -> Sentences.refuses(0, Calls::boundsLoBelow));
        Sentences.test(BOUNDS, "So ... hi > 7 ... are all refused", () -> Sentences.refuses(0, Calls::boundsHiAbove));
        Sentences.test(BOUNDS, "So ... lo > hi are all refused", () -> Sentences.refuses(0, Calls::boundsCrossed));
        Sentences.test(BOUNDS, "lo == hi is accepted", () -> Sentences.accepts(1, Calls::boundsEqual));
        Sentences.test(BOUNDS, "A refused call changes nothing, including status.", () -> Sentences.changesNothing(Calls::refusedBounds));
        Sentences.test(BOUNDS, "Otherwise it stores both values", ChangeBoundaryTest::boundsStored);
        Sentences.test(BOUNDS, "sets status to UNSOLVED", () -> Sentences.becomesUnsolved(Calls::acceptedBounds));
        Sentences.test(BOUNDS, "even if they equal the old ones", () -> Sentences.becomesUnsolved(Calls::sameBounds));
        Sentences.test(BOUNDS, "and answers true", () -> Sentences.accepts(1, Calls::acceptedBounds));
        Sentences.test(BOUNDS, "The bounds of other variables, the objective and the rows do not change.",
            ChangeBoundaryTest::boundsAlone);
    }

    private static void rowAppended() {
        for (Sample s : Sample.ALL) {
            for (Call call : Calls.acceptedRow(s)) {
                Sentences.due(s + ": " + call.text(), call.on(s.make()), s.rows());
            }
        }
    }

    private static void rowAnswersZeroToSeven() {
        for (int n = 1; n <= 4; n++) {
            GomoryBranch g = new GomoryBranch(n);
            for (int row = 0; row < 8; row++) {
                Sentences.due("addRow number " + row, g.addRow(1 + row % 3, row), row);
            }
        }
    }

    private static void rowKindAndRhs() {
        for (int kind = 1; kind <= 3; kind++) {
            GomoryBranch g = new GomoryBranch(2);
            for (int rhs = -99; rhs <= 99; rhs++) {
                int row = (rhs + 99) % 8;
                g.addRow(kind, rhs);
                Sentences.due("addRow(" + kind + ", " + rhs + "), then getKind(" + row + ")", g.getKind(row), kind);
                Sentences.due("addRow(" + kind + ", " + rhs + "), then getRhs(" + row + ")", g.getRhs(row), rhs);
                for (int i = 0; i < 8 && row == 7; i++) {
                    g.removeLastRow();
                }
            }
        }
    }

    private static void rowStartsWithZeros() {
        for (Sample s : Sample.ALL) {
            for (Call call : Calls.acceptedRow(s)) {
                GomoryBranch g = s.make();
                call.on(g);
                for (int v = 0; v < s.n(); v++) {
                    Sentences.due(s + ": " + call.text() + ", then getCoef(" + s.rows() + ", " + v + ")", g.getCoef(s.rows(), v), 0);
                }
            }
        }
    }

    private static void rowCountGrows() {
        for (Sample s : Sample.ALL) {
            for (Call call : Calls.acceptedRow(s)) {
                GomoryBranch g = s.make();
                call.on(g);
                Sentences.due(s + ": " + call.text() + ", then numRows()", g.numRows(), s.rows() + 1);
            }
        }
    }

    private static void rowAlone() {
        for (Sample s : Sample.ALL) {
            int[] before = Look.due(s);
            for (int kind = 1; kind <= 3 && s.rows() < 8; kind++) {
                for (int rhs : new int[] {-99, 0, 99}) {
                    int[] due = Look.with(before, Call.numRows(), s.rows() + 1);
                    due = Look.with(due, Call.getKind(s.rows()), kind);
                    due = Look.with(due, Call.getRhs(s.rows()), rhs);
                    changesOnly(s, Call.addRow(kind, rhs), due);
                }
            }
        }
    }

    private static void addTests() {
        Sentences.test(ADD, "all its coefficients 0", ChangeBoundaryTest::rowStartsWithZeros);
        Sentences.test(ADD, "Refused, answering -1, when numRows() is already 8", () -> Sentences.refuses(-1, Calls::rowTooMany));
        Sentences.test(ADD, "Refused, answering -1, ... kind is not LE, GE or EQ (that is, not 1, 2 or 3)",
            () -> Sentences.refuses(-1, Calls::rowKind));
        Sentences.test(ADD, "Refused, answering -1, ... rhs < -99", () -> Sentences.refuses(-1, Calls::rowRhsBelow));
        Sentences.test(ADD, "Refused, answering -1, ... rhs > 99", () -> Sentences.refuses(-1, Calls::rowRhsAbove));
        Sentences.test(ADD, "A refused call changes nothing, including status.", () -> Sentences.changesNothing(Calls::refusedRow));
        Sentences.test(ADD, "Otherwise the new row gets index r = the old numRows()", ChangeBoundaryTest::rowAppended);
        Sentences.test(ADD, "afterwards getKind(r) answers kind, getRhs(r) answers rhs", ChangeBoundaryTest::rowKindAndRhs);
        Sentences.test(ADD, "numRows() grows by one", ChangeBoundaryTest::rowCountGrows);
        Sentences.test(ADD, "status becomes UNSOLVED", () -> Sentences.becomesUnsolved(Calls::acceptedRow));
        Sentences.test(ADD, "the answer is r (a number in 0 .. 7)", ChangeBoundaryTest::rowAnswersZeroToSeven);
        Sentences.test(ADD, "Existing rows, the objective and the bounds do not change.", ChangeBoundaryTest::rowAlone);
    }

    private static void coefStored() {
        for (int n = 1; n <= 4; n++) {
            GomoryBranch g = new GomoryBranch(n);
            for (int row = 0; row < 8; row++) {
                g.addRow(GomoryBranch.EQ, row);
                for (int v = 0; v < n; v++) {
                    for (int coef = -9; coef <= 9; coef++) {
                        Call call = Call.setCoef(row, v, coef);
                        call.on(g);
                        Sentences.due(call.text() + ", then getCoef(" + row + ", " + v + ")", g.getCoef(row, v), coef);
                    }
                }
            }
        }
    }

    private static void coefAlone() {
        for (Sample s : Sample.ALL) {
            int[] before = Look.due(s);
            for (int row = 0; row < s.rows(); row++) {
                for (int v = 0; v < s.n(); v++) {
                    for (int coef : new int[] {-9, 0, 9}) {
                        changesOnly(s, Call.setCoef(row, v, coef), Look.with(before, Call.getCoef(row, v), coef));
                    }
                }
            }
        }
    }

    private static void coefTests() {
        Sentences.test(COEF, "Refused, answering false, when row < 0", () -> Sentences.refuses(0, Calls::coefRowBelow));
        Sentences.test(COEF, "Refused, answering false, when ... row >= numRows()", () -> Sentences.refuses(0, Calls::coefRowAbove));
        Sentences.test(COEF, "Refused, answering false, when ... v < 0", () -> Sentences.refuses(0, Calls::coefVarBelow));
        Sentences.test(COEF, "Refused, answering false, when ... v >= n", () -> Sentences.refuses(0, Calls::coefVarAbove));
        Sentences.test(COEF, "Refused, answering false, when ... coef < -9", () -> Sentences.refuses(0, Calls::coefTooSmall));
        Sentences.test(COEF, "Refused, answering false, when ... coef > 9", () -> Sentences.refuses(0, Calls::coefTooLarge));
        Sentences.test(COEF, "In particular every call is refused while there are no rows.",
            () -> Sentences.refuses(0, Calls::coefWithoutRows));
        Sentences.test(COEF, "A refused call changes nothing, including status.", () -> Sentences.changesNothing(Calls::refusedCoef));
        Sentences.test(COEF, "Otherwise it stores coef as a[row][v]", ChangeBoundaryTest::coefStored);
        Sentences.test(COEF, "sets status to UNSOLVED", () -> Sentences.becomesUnsolved(Calls::acceptedCoef));
        Sentences.test(COEF, "even if the stored value equalled coef", () -> Sentences.becomesUnsolved(Calls::sameCoef));
        Sentences.test(COEF, "and answers true", () -> Sentences.accepts(1, Calls::acceptedCoef));
        Sentences.test(COEF, "The kind and right-hand side of the row, its other coefficients, all other rows, the objective"
            + " and the bounds do not change.", ChangeBoundaryTest::coefAlone);
    }

    private static int[] withoutRow(int[] look, int row) {
        int[] due = Look.with(look, Call.getKind(row), 0);
        due = Look.with(due, Call.getRhs(row), 0);
        for (int v = 0; v < 4; v++) {
            due = Look.with(due, Call.getCoef(row, v), 0);
        }
        return due;
    }

    private static void lastRowGoes() {
        GomoryBranch g = new GomoryBranch(1);
        for (int row = 0; row < 8; row++) {
            g.addRow(GomoryBranch.LE, 10 + row);
        }
        for (int left = 7; left >= 0; left--) {
            g.removeLastRow();
            for (int row = 0; row < 8; row++) {
                Sentences.due("getRhs(" + row + ") with " + left + " rows left", g.getRhs(row), row < left ? 10 + row : 0);
            }
        }
    }

    private static void removalShrinks() {
        for (Sample s : Sample.ALL) {
            for (Call call : Calls.acceptedRemoval(s)) {
                GomoryBranch g = s.make();
                call.on(g);
                Sentences.due(s + ": " + call.text() + ", then numRows()", g.numRows(), s.rows() - 1);
            }
        }
    }

    private static void removedIsNoRow() {
        for (Sample s : Sample.ALL) {
            int last = s.rows() - 1;
            if (last < 0) {
                continue;
            }
            GomoryBranch g = s.make();
            g.removeLastRow();
            Sentences.due(s + ": getKind of the removed row", g.getKind(last), 0);
            Sentences.due(s + ": getRhs of the removed row", g.getRhs(last), 0);
            for (int v = 0; v < s.n(); v++) {
                Sentences.due(s + ": getCoef of the removed row", g.getCoef(last, v), 0);
                Sentences.due(s + ": setCoef of the removed row", Call.setCoef(last, v, 1).on(g), 0);
            }
        }
    }

    private static void addedAgainStartsAnew() {
        for (Sample s : Sample.ALL) {
            for (int removed = 1; removed <= s.rows(); removed++) {
                GomoryBranch g = s.make();
                for (int i = 0; i < removed; i++) {
                    g.removeLastRow();
                }
                for (int row = s.rows() - removed; row < s.rows(); row++) {
                    int kind = 1 + (row + 1) % 3;
                    g.addRow(kind, 60 + row);
                    Sentences.due(s + ": getKind(" + row + ") of the new row", g.getKind(row), kind);
                    Sentences.due(s + ": getRhs(" + row + ") of the new row", g.getRhs(row), 60 + row);
                    for (int v = 0; v < s.n(); v++) {
                        Sentences.due(s + ": getCoef(" + row + ", " + v + ") of the new row", g.getCoef(row, v), 0);
                    }
                }
            }
        }
    }

    private static void removalAlone() {
        for (Sample s : Sample.ALL) {
            if (s.rows() > 0) {
                int[] due = Look.with(Look.due(s), Call.numRows(), s.rows() - 1);
                changesOnly(s, Call.removeLastRow(), withoutRow(due, s.rows() - 1));
            }
        }
    }

    private static void refusedAfterTheLast() {
        for (Sample s : Sample.ALL) {
            GomoryBranch g = s.make();
            for (int i = 0; i < s.rows(); i++) {
                g.removeLastRow();
            }
            for (int i = 0; i < 3; i++) {
                Sentences.due(s + ": removeLastRow() once all rows are gone", Call.removeLastRow().on(g), 0);
            }
        }
    }

    private static void removeTests() {
        Sentences.test(REMOVE, "removes the row with the greatest index", ChangeBoundaryTest::lastRowGoes);
        Sentences.test(REMOVE, "Refused, answering false, when numRows() is 0.", ChangeBoundaryTest::refusedAfterTheLast);
        Sentences.test(REMOVE, "A refused call changes nothing, including status.", () -> Sentences.changesNothing(Calls::refusedRemoval));
        Sentences.test(REMOVE, "Otherwise numRows() shrinks by one", ChangeBoundaryTest::removalShrinks);
        Sentences.test(REMOVE, "status becomes UNSOLVED", () -> Sentences.becomesUnsolved(Calls::acceptedRemoval));
        Sentences.test(REMOVE, "the answer is true", () -> Sentences.accepts(1, Calls::acceptedRemoval));
        Sentences.test(REMOVE, "The removed index is no longer a valid row, so getCoef, getRhs and getKind answer 0 for it.",
            ChangeBoundaryTest::removedIsNoRow);
        Sentences.test(REMOVE, "A row added later at that index again starts with all coefficients 0 and with the kind"
            + " and right-hand side given to that addRow call.", ChangeBoundaryTest::addedAgainStartsAnew);
        Sentences.test(REMOVE, "The remaining rows, the objective and the bounds do not change.", ChangeBoundaryTest::removalAlone);
    }

    public static void main(String[] args) {
        objectiveTests();
        boundsTests();
        addTests();
        coefTests();
        removeTests();
        Sentences.end();
    }
}
