import java.util.ArrayList;
import java.util.List;
import java.util.stream.IntStream;

// The calls that can be made on a sample, sorted by what the document says of them. In a list of
// refused calls every call is wrong in the one way that the list is named for.
final class Calls {
    private static final int MIN = Integer.MIN_VALUE;
    private static final int MAX = Integer.MAX_VALUE;
    private static final int[] COEFS = {-9, -1, 0, 1, 9};
    private static final int[] RIGHT_SIDES = {-99, -1, 0, 1, 99};
    private static final int[][] BOUNDS = {{0, 7}, {0, 0}, {7, 7}, {3, 3}, {2, 5}};
    private static final int[] KINDS = {GomoryBranch.LE, GomoryBranch.GE, GomoryBranch.EQ};

    private Calls() {
    }

    // The steps of powers of two meet every number that a too narrow type or a wrapped product
    // would take for a good one.
    static int[] below(int edge) {
        IntStream near = IntStream.range(0, 31).map(k -> edge - (1 << k));
        IntStream round = IntStream.range(0, 31).map(k -> -(1 << k));
        IntStream last = IntStream.of(MIN, MIN + 1, MIN + 2, MIN + 3);
        return IntStream.concat(IntStream.concat(near, round), last).filter(x -> x < edge).distinct().toArray();
    }

    static int[] above(int edge) {
        IntStream near = IntStream.range(0, 31).map(k -> edge + (1 << k));
        IntStream round = IntStream.range(0, 31).map(k -> 1 << k);
        IntStream last = IntStream.of(MAX, MAX - 1, MAX - 2, MAX - 3);
        return IntStream.concat(IntStream.concat(near, round), last).filter(x -> x > edge).distinct().toArray();
    }

    @SafeVarargs
    static List<Call> joined(List<Call>... lists) {
        List<Call> all = new ArrayList<>();
        for (List<Call> list : lists) {
            all.addAll(list);
        }
        return all;
    }

    private static int[] upTo(int count) {
        return IntStream.range(0, count).toArray();
    }

    private static List<Call> objective(int[] vars, int[] coefs) {
        List<Call> calls = new ArrayList<>();
        for (int v : vars) {
            for (int coef : coefs) {
                calls.add(Call.setObjective(v, coef));
            }
        }
        return calls;
    }

    static List<Call> objectiveVarBelow(Sample s) {
        return objective(below(0), COEFS);
    }

    static List<Call> objectiveVarAbove(Sample s) {
        return objective(above(s.n() - 1), COEFS);
    }

    static List<Call> objectiveCoefBelow(Sample s) {
        return objective(upTo(s.n()), below(-9));
    }

    static List<Call> objectiveCoefAbove(Sample s) {
        return objective(upTo(s.n()), above(9));
    }

    static List<Call> refusedObjective(Sample s) {
        return joined(objectiveVarBelow(s), objectiveVarAbove(s), objectiveCoefBelow(s), objectiveCoefAbove(s),
            List.of(Call.setObjective(-1, 10), Call.setObjective(s.n(), -10), Call.setObjective(MIN, MAX)));
    }

    static List<Call> acceptedObjective(Sample s) {
        return joined(objective(upTo(s.n()), COEFS), sameObjective(s));
    }

    static List<Call> sameObjective(Sample s) {
        return IntStream.range(0, s.n()).mapToObj(v -> Call.setObjective(v, s.objective(v))).toList();
    }

    private static List<Call> bounds(int[] vars, int[][] pairs) {
        List<Call> calls = new ArrayList<>();
        for (int v : vars) {
            for (int[] pair : pairs) {
                calls.add(Call.setBounds(v, pair[0], pair[1]));
            }
        }
        return calls;
    }

    static List<Call> boundsVarBelow(Sample s) {
        return bounds(below(0), BOUNDS);
    }

    static List<Call> boundsVarAbove(Sample s) {
        return bounds(above(s.n() - 1), BOUNDS);
    }

    static List<Call> boundsLoBelow(Sample s) {
        List<Call> calls = new ArrayList<>();
        for (int hi : new int[] {0, 3, 7}) {
            calls.addAll(bounds(upTo(s.n()), IntStream.of(below(0)).mapToObj(lo -> new int[] {lo, hi}).toArray(int[][]::new)));
        }
        return calls;
    }

    static List<Call> boundsHiAbove(Sample s) {
        List<Call> calls = new ArrayList<>();
        for (int lo : new int[] {0, 3, 7}) {
            calls.addAll(bounds(upTo(s.n()), IntStream.of(above(7)).mapToObj(hi -> new int[] {lo, hi}).toArray(int[][]::new)));
        }
        return calls;
    }

    static List<Call> boundsCrossed(Sample s) {
        List<Call> calls = new ArrayList<>();
        for (int lo = 1; lo <= 7; lo++) {
            for (int hi = 0; hi < lo; hi++) {
                calls.addAll(bounds(upTo(s.n()), new int[][] {{lo, hi}}));
            }
        }
        return calls;
    }

    static List<Call> refusedBounds(Sample s) {
        int[][] wrongTwice = {{-1, -1}, {8, 8}, {-1, 8}, {8, -1}, {8, 0}, {7, -1}, {MIN, MAX}, {MAX, MIN}, {MIN, MIN}, {MAX, MAX}};
        return joined(boundsVarBelow(s), boundsVarAbove(s), boundsLoBelow(s), boundsHiAbove(s), boundsCrossed(s),
            bounds(new int[] {-1, 0, s.n() - 1, s.n()}, wrongTwice));
    }

    static List<Call> boundsEqual(Sample s) {
        return bounds(upTo(s.n()), IntStream.rangeClosed(0, 7).mapToObj(b -> new int[] {b, b}).toArray(int[][]::new));
    }

    static List<Call> acceptedBounds(Sample s) {
        return joined(bounds(upTo(s.n()), BOUNDS), sameBounds(s));
    }

    static List<Call> sameBounds(Sample s) {
        return IntStream.range(0, s.n()).mapToObj(v -> Call.setBounds(v, s.low(v), s.high(v))).toList();
    }

    private static List<Call> rows(int[] kinds, int[] rightSides) {
        List<Call> calls = new ArrayList<>();
        for (int kind : kinds) {
            for (int rhs : rightSides) {
                calls.add(Call.addRow(kind, rhs));
            }
        }
        return calls;
    }

    static List<Call> rowTooMany(Sample s) {
        return s.rows() == 8 ? rows(KINDS, RIGHT_SIDES) : List.of();
    }

    static List<Call> rowKind(Sample s) {
        return s.rows() == 8 ? List.of() : joined(rows(below(1), RIGHT_SIDES), rows(above(3), RIGHT_SIDES));
    }

    static List<Call> rowRhsBelow(Sample s) {
        return s.rows() == 8 ? List.of() : rows(KINDS, below(-99));
    }

    static List<Call> rowRhsAbove(Sample s) {
        return s.rows() == 8 ? List.of() : rows(KINDS, above(99));
    }

    static List<Call> refusedRow(Sample s) {
        return joined(rowTooMany(s), rowKind(s), rowRhsBelow(s), rowRhsAbove(s),
            List.of(Call.addRow(0, 100), Call.addRow(4, -100), Call.addRow(MIN, MAX)));
    }

    static List<Call> acceptedRow(Sample s) {
        return s.rows() == 8 ? List.of() : rows(KINDS, RIGHT_SIDES);
    }

    private static List<Call> coefs(int[] rows, int[] vars, int[] coefs) {
        List<Call> calls = new ArrayList<>();
        for (int row : rows) {
            for (int v : vars) {
                for (int coef : coefs) {
                    calls.add(Call.setCoef(row, v, coef));
                }
            }
        }
        return calls;
    }

    static List<Call> coefWithoutRows(Sample s) {
        return s.rows() == 0 ? coefs(new int[] {-1, 0, 1, 7, 8}, new int[] {-1, 0, 1, 2, 3, 4}, COEFS) : List.of();
    }

    static List<Call> coefRowBelow(Sample s) {
        return coefs(below(0), upTo(s.n()), new int[] {0, 7});
    }

    static List<Call> coefRowAbove(Sample s) {
        return coefs(above(s.rows() - 1), upTo(s.n()), new int[] {0, 7});
    }

    static List<Call> coefVarBelow(Sample s) {
        return coefs(upTo(s.rows()), below(0), new int[] {7});
    }

    static List<Call> coefVarAbove(Sample s) {
        return coefs(upTo(s.rows()), above(s.n() - 1), new int[] {7});
    }

    static List<Call> coefTooSmall(Sample s) {
        return coefs(upTo(s.rows()), upTo(s.n()), below(-9));
    }

    static List<Call> coefTooLarge(Sample s) {
        return coefs(upTo(s.rows()), upTo(s.n()), above(9));
    }

    // A row and a variable both out of range can still point at a cell that is there.
    private static List<Call> coefWrongTwice(Sample s) {
        return coefs(new int[] {MIN, -2, -1, s.rows(), 8, MAX}, new int[] {MIN, -4, -1, s.n(), 4, 5, 8, MAX}, new int[] {7, 10, MIN});
    }

    static List<Call> refusedCoef(Sample s) {
        return joined(coefWithoutRows(s), coefRowBelow(s), coefRowAbove(s), coefVarBelow(s), coefVarAbove(s),
            coefTooSmall(s), coefTooLarge(s), coefWrongTwice(s));
    }

    static List<Call> acceptedCoef(Sample s) {
        return joined(coefs(upTo(s.rows()), upTo(s.n()), COEFS), sameCoef(s));
    }

    static List<Call> sameCoef(Sample s) {
        List<Call> calls = new ArrayList<>();
        for (int row = 0; row < s.rows(); row++) {
            for (int v = 0; v < s.n(); v++) {
                calls.add(Call.setCoef(row, v, s.coef(row, v)));
            }
        }
        return calls;
    }

    static List<Call> refusedRemoval(Sample s) {
        return s.rows() == 0 ? List.of(Call.removeLastRow()) : List.of();
    }

    static List<Call> acceptedRemoval(Sample s) {
        return s.rows() == 0 ? List.of() : List.of(Call.removeLastRow());
    }

    static List<Call> refused(Sample s) {
        return joined(refusedObjective(s), refusedBounds(s), refusedRow(s), refusedCoef(s), refusedRemoval(s));
    }

    static List<Call> accepted(Sample s) {
        return joined(acceptedObjective(s), acceptedBounds(s), acceptedRow(s), acceptedCoef(s), acceptedRemoval(s));
    }

    // Numbers around every index there is, and the ends of int.
    static int[] indices() {
        return IntStream.concat(IntStream.rangeClosed(-2, 9), IntStream.of(MIN, 1 << 30, -(1 << 30), MAX)).toArray();
    }

    static List<Call> pointAnywhere(Sample s) {
        return IntStream.of(indices()).mapToObj(Call::point).toList();
    }

    static List<Call> getCoefAnywhere(Sample s) {
        return IntStream.of(indices()).boxed()
            .flatMap(row -> IntStream.of(indices()).mapToObj(v -> Call.getCoef(row, v))).toList();
    }

    static List<Call> getRhsAnywhere(Sample s) {
        return IntStream.of(indices()).mapToObj(Call::getRhs).toList();
    }

    static List<Call> getKindAnywhere(Sample s) {
        return IntStream.of(indices()).mapToObj(Call::getKind).toList();
    }

    static List<Call> getObjectiveAnywhere(Sample s) {
        return IntStream.of(indices()).mapToObj(Call::getObjective).toList();
    }

    static List<Call> getBoundAnywhere(Sample s) {
        return IntStream.of(indices()).boxed()
            .flatMap(v -> IntStream.of(indices()).mapToObj(which -> Call.getBound(v, which))).toList();
    }

    static List<Call> getters(Sample s) {
        return joined(List.of(Call.numVars(), Call.numRows(), Call.status(), Call.value()), pointAnywhere(s),
            getCoefAnywhere(s), getRhsAnywhere(s), getKindAnywhere(s), getObjectiveAnywhere(s), getBoundAnywhere(s));
    }
}
