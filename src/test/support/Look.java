import java.util.ArrayList;
import java.util.Arrays;
import java.util.List;

// Everything that the getters and status() tell of an object, as one row of answers.
final class Look {
    private static final List<Call> CALLS = calls();

    private Look() {
    }

    private static List<Call> calls() {
        List<Call> calls = new ArrayList<>(List.of(Call.numVars(), Call.numRows(), Call.status(), Call.value()));
        for (int v = -1; v <= 4; v++) {
            calls.add(Call.point(v));
            calls.add(Call.getObjective(v));
            for (int which = -1; which <= 2; which++) {
                calls.add(Call.getBound(v, which));
            }
        }
        for (int row = -1; row <= 8; row++) {
            calls.add(Call.getKind(row));
            calls.add(Call.getRhs(row));
            for (int v = -1; v <= 4; v++) {
                calls.add(Call.getCoef(row, v));
            }
        }
        return calls;
    }

    static int[] at(GomoryBranch g) {
        int[] look = new int[CALLS.size()];
        for (int i = 0; i < look.length; i++) {
            look[i] = CALLS.get(i).on(g);
        }
        return look;
    }

    // What is due from a sample, told by its own data: a look at an object would not show what the
    // looking itself changes.
    static int[] due(Sample s) {
        int[] look = new int[CALLS.size()];
        look[place(Call.numVars())] = s.n();
        look[place(Call.numRows())] = s.rows();
        look[place(Call.status())] = s.status();
        look[place(Call.value())] = s.isOptimal() ? s.bestValue() : 0;
        for (int v = 0; v < s.n(); v++) {
            look[place(Call.point(v))] = s.isOptimal() ? s.best(v) : 0;
            look[place(Call.getObjective(v))] = s.objective(v);
            look[place(Call.getBound(v, 0))] = s.low(v);
            look[place(Call.getBound(v, 1))] = s.high(v);
        }
        for (int row = 0; row < s.rows(); row++) {
            look[place(Call.getKind(row))] = s.kind(row);
            look[place(Call.getRhs(row))] = s.rhs(row);
            for (int v = 0; v < s.n(); v++) {
                look[place(Call.getCoef(row, v))] = s.coef(row, v);
            }
        }
        return look;
    }

    static int[] with(int[] look, Call call, int answer) {
        int[] changed = look.clone();
        changed[place(call)] = answer;
        return changed;
    }

    private static int place(Call call) {
        for (int i = 0; i < CALLS.size(); i++) {
            if (CALLS.get(i).text().equals(call.text())) {
                return i;
            }
        }
        throw new IllegalArgumentException(call.text() + " is not looked at");
    }

    static int[] withoutResult(int[] look) {
        int[] changed = with(with(look, Call.status(), GomoryBranch.UNSOLVED), Call.value(), 0);
        for (int v = 0; v < 4; v++) {
            changed = with(changed, Call.point(v), 0);
        }
        return changed;
    }

    static void same(String after, int[] got, int[] want) {
        boolean isSame = Arrays.equals(got, want);
        Sentences.holds(after + ": every answer as due", isSame);
        for (int i = 0; i < want.length && !isSame; i++) {
            Sentences.due(after + ", then " + CALLS.get(i).text(), got[i], want[i]);
        }
    }

    // What the getters do not show can still come out later, so the object is also led on from here.
    static List<int[]> later(GomoryBranch g) {
        List<int[]> looks = new ArrayList<>();
        g.solve();
        looks.add(at(g));
        for (int i = 0; i < 8; i++) {
            g.addRow(GomoryBranch.LE, 50);
        }
        g.solve();
        looks.add(at(g));
        for (int i = 0; i < 8; i++) {
            g.removeLastRow();
        }
        g.solve();
        looks.add(at(g));
        return looks;
    }
}
