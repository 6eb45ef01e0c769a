// Promises 13 to 17: the getters of the program.
public final class ReadBoundaryTest {
    private static final String COEF = "Promise 13";
    private static final String RHS = "Promise 14";
    private static final String KIND = "Promise 15";
    private static final String OBJECTIVE = "Promise 16";
    private static final String BOUND = "Promise 17";
    private static final String NOTHING = "The call changes nothing.";

    private static void due(Sample s, GomoryBranch g, Call call, int due) {
        Sentences.due(s + ": " + call.text(), call.on(g), due);
    }

    private static void coefThere() {
        for (Sample s : Sample.ALL) {
            GomoryBranch g = s.make();
            for (int row = 0; row < s.rows(); row++) {
                for (int v = 0; v < s.n(); v++) {
                    due(s, g, Call.getCoef(row, v), s.coef(row, v));
                }
            }
        }
    }

    private static void coefOutsideRows(boolean isBelow) {
        for (Sample s : Sample.ALL) {
            GomoryBranch g = s.make();
            for (int row : isBelow ? Calls.below(0) : Calls.above(s.rows() - 1)) {
                for (int v = 0; v < s.n(); v++) {
                    due(s, g, Call.getCoef(row, v), 0);
                }
            }
        }
    }

    private static void coefOutsideVars(boolean isBelow) {
        for (Sample s : Sample.ALL) {
            GomoryBranch g = s.make();
            for (int v : isBelow ? Calls.below(0) : Calls.above(s.n() - 1)) {
                for (int row = 0; row < s.rows(); row++) {
                    due(s, g, Call.getCoef(row, v), 0);
                }
            }
        }
    }

    // Both out of range can still point at a cell that is there.
    private static void coefOutsideBoth() {
        for (Sample s : Sample.ALL) {
            GomoryBranch g = s.make();
            for (int row : Calls.indices()) {
                for (int v : Calls.indices()) {
                    if ((row < 0 || row >= s.rows()) && (v < 0 || v >= s.n())) {
                        due(s, g, Call.getCoef(row, v), 0);
                    }
                }
            }
        }
    }

    private static void coefTests() {
        Sentences.test(COEF, "answers a[row][v] when 0 <= row < numRows() and 0 <= v < n", ReadBoundaryTest::coefThere);
        Sentences.test(COEF, "when 0 <= row ... else 0", () -> coefOutsideRows(true));
        Sentences.test(COEF, "row < numRows() ... else 0", () -> coefOutsideRows(false));
        Sentences.test(COEF, "0 <= v ... else 0", () -> coefOutsideVars(true));
        Sentences.test(COEF, "v < n, else 0", () -> coefOutsideVars(false));
        Sentences.test(COEF, "when 0 <= row < numRows() and 0 <= v < n, else 0", ReadBoundaryTest::coefOutsideBoth);
        Sentences.test(COEF, NOTHING, () -> Sentences.changesNothing(Calls::getCoefAnywhere));
    }

    private static void rhsThere() {
        for (Sample s : Sample.ALL) {
            GomoryBranch g = s.make();
            for (int row = 0; row < s.rows(); row++) {
                due(s, g, Call.getRhs(row), s.rhs(row));
            }
        }
    }

    private static void rhsOutside(boolean isBelow) {
        for (Sample s : Sample.ALL) {
            GomoryBranch g = s.make();
            for (int row : isBelow ? Calls.below(0) : Calls.above(s.rows() - 1)) {
                due(s, g, Call.getRhs(row), 0);
            }
        }
    }

    private static void rhsTests() {
        Sentences.test(RHS, "answers rhs of the row when 0 <= row < numRows()", ReadBoundaryTest::rhsThere);
        Sentences.test(RHS, "when 0 <= row ... else 0", () -> rhsOutside(true));
        Sentences.test(RHS, "row < numRows(), else 0", () -> rhsOutside(false));
        Sentences.test(RHS, NOTHING, () -> Sentences.changesNothing(Calls::getRhsAnywhere));
    }

    private static void kindThere() {
        for (Sample s : Sample.ALL) {
            GomoryBranch g = s.make();
            for (int row = 0; row < s.rows(); row++) {
                due(s, g, Call.getKind(row), s.kind(row));
            }
        }
    }

    private static void kindOutside(boolean isBelow) {
        for (Sample s : Sample.ALL) {
            GomoryBranch g = s.make();
            for (int row : isBelow ? Calls.below(0) : Calls.above(s.rows() - 1)) {
                due(s, g, Call.getKind(row), 0);
            }
        }
    }

    private static void kindTests() {
        Sentences.test(KIND, "answers the kind (LE, GE or EQ) of the row when 0 <= row < numRows()", ReadBoundaryTest::kindThere);
        Sentences.test(KIND, "when 0 <= row ... else 0", () -> kindOutside(true));
        Sentences.test(KIND, "row < numRows(), else 0", () -> kindOutside(false));
        Sentences.test(KIND, NOTHING, () -> Sentences.changesNothing(Calls::getKindAnywhere));
    }

    private static void objectiveThere() {
        for (Sample s : Sample.ALL) {
            GomoryBranch g = s.make();
            for (int v = 0; v < s.n(); v++) {
                due(s, g, Call.getObjective(v), s.objective(v));
            }
        }
    }

    private static void objectiveOutside(boolean isBelow) {
        for (Sample s : Sample.ALL) {
            GomoryBranch g = s.make();
            for (int v : isBelow ? Calls.below(0) : Calls.above(s.n() - 1)) {
                due(s, g, Call.getObjective(v), 0);
            }
        }
    }

    private static void objectiveTests() {
        Sentences.test(OBJECTIVE, "answers c[v] when 0 <= v < n", ReadBoundaryTest::objectiveThere);
        Sentences.test(OBJECTIVE, "when 0 <= v ... else 0", () -> objectiveOutside(true));
        Sentences.test(OBJECTIVE, "v < n, else 0", () -> objectiveOutside(false));
        Sentences.test(OBJECTIVE, NOTHING, () -> Sentences.changesNothing(Calls::getObjectiveAnywhere));
    }

    private static void boundThere(int which) {
        for (Sample s : Sample.ALL) {
            GomoryBranch g = s.make();
            for (int v = 0; v < s.n(); v++) {
                due(s, g, Call.getBound(v, which), which == 0 ? s.low(v) : s.high(v));
            }
        }
    }

    private static void boundOutside(boolean isBelow) {
        for (Sample s : Sample.ALL) {
            GomoryBranch g = s.make();
            for (int v : isBelow ? Calls.below(0) : Calls.above(s.n() - 1)) {
                due(s, g, Call.getBound(v, 0), 0);
                due(s, g, Call.getBound(v, 1), 0);
            }
        }
    }

    private static void boundOfNeither() {
        for (Sample s : Sample.ALL) {
            GomoryBranch g = s.make();
            for (int v = 0; v < s.n(); v++) {
                for (int which : Calls.below(0)) {
                    due(s, g, Call.getBound(v, which), 0);
                }
                for (int which : Calls.above(1)) {
                    due(s, g, Call.getBound(v, which), 0);
                }
            }
        }
    }

    private static void boundTests() {
        Sentences.test(BOUND, "answers lo[v] when which is 0", () -> boundThere(0));
        Sentences.test(BOUND, "hi[v] when which is 1", () -> boundThere(1));
        Sentences.test(BOUND, "It answers 0 when v < 0", () -> boundOutside(true));
        Sentences.test(BOUND, "It answers 0 when ... v >= n", () -> boundOutside(false));
        Sentences.test(BOUND, "It answers 0 ... when which is neither 0 nor 1", ReadBoundaryTest::boundOfNeither);
        Sentences.test(BOUND, NOTHING, () -> Sentences.changesNothing(Calls::getBoundAnywhere));
    }

    public static void main(String[] args) {
        coefTests();
        rhsTests();
        kindTests();
        objectiveTests();
        boundTests();
        Sentences.end();
    }
}
