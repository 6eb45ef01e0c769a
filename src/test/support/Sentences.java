import java.util.List;
import java.util.function.Function;

// Tests single sentences of the document, each by itself, and tells which of them do not hold.
final class Sentences {
    private static final int FAULTS_TOLD = 5;

    private static int tested = 0;
    private static int broken = 0;
    private static int compared = 0;
    private static int faults = 0;

    private Sentences() {
    }

    // The sentence is quoted from the section of the document; " ... " stands for words left out.
    static void test(String section, String sentence, Runnable test) {
        tested++;
        compared = 0;
        faults = 0;
        try {
            test.run();
        } catch (RuntimeException | StackOverflowError e) {
            fault("threw " + e);
        }
        if (compared == 0) {
            fault("nothing was compared");
        }
        if (faults > 0) {
            broken++;
            System.out.println("does not hold: " + section + ": " + sentence);
        }
    }

    private static void fault(String text) {
        faults++;
        if (faults <= FAULTS_TOLD) {
            System.out.println("  " + text);
        }
    }

    static void due(String call, long got, long want) {
        compared++;
        if (got != want) {
            fault(call + " answered " + got + ", due is " + want);
        }
    }

    static void holds(String what, boolean isSo) {
        compared++;
        if (!isSo) {
            fault(what + " is not so");
        }
    }

    static void refuses(int answer, Function<Sample, List<Call>> calls) {
        for (Sample s : Sample.ALL) {
            GomoryBranch g = s.make();
            for (Call call : calls.apply(s)) {
                due(s + ": " + call.text(), call.on(g), answer);
            }
        }
    }

    // Each call on an object of its own: none of them stands where another one has left it.
    static void accepts(int answer, Function<Sample, List<Call>> calls) {
        for (Sample s : Sample.ALL) {
            for (Call call : calls.apply(s)) {
                due(s + ": " + call.text(), call.on(s.make()), answer);
            }
        }
    }

    static void changesNothing(Function<Sample, List<Call>> calls) {
        for (Sample s : Sample.ALL) {
            List<Call> tried = calls.apply(s);
            if (!tried.isEmpty()) {
                changesNothing(s, tried);
            }
        }
    }

    private static void changesNothing(Sample s, List<Call> calls) {
        GomoryBranch called = s.make();
        GomoryBranch left = s.make();
        String name = s.toString();
        int[] before = Look.due(s);
        for (Call call : calls) {
            call.on(called);
            Look.same(name + ": " + call.text(), Look.at(called), before);
        }
        List<int[]> got = Look.later(called);
        List<int[]> want = Look.later(left);
        for (int i = 0; i < want.size(); i++) {
            Look.same(name + ": calls from " + calls.get(0).text() + " on, later", got.get(i), want.get(i));
        }
    }

    static void becomesUnsolved(Function<Sample, List<Call>> calls) {
        for (Sample s : Sample.ALL) {
            for (Call call : calls.apply(s)) {
                GomoryBranch g = s.make();
                due(s + ".status()", g.status(), s.status());
                call.on(g);
                due(s + ": " + call.text() + ", then status()", g.status(), GomoryBranch.UNSOLVED);
            }
        }
    }

    static void end() {
        System.out.println(broken == 0 ? "all " + tested + " sentences hold" : broken + " of " + tested + " sentences do not hold");
        if (broken != 0) {
            System.exit(1);
        }
    }
}
