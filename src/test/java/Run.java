import java.util.ArrayList;
import java.util.Arrays;
import java.util.List;

/** An object of the program and the calls made on it, so that a twin in the same state can be made. */
final class Run {
    private static final int MOST_CALLS = 512;

    private final Checks checks;
    private final HeapProfiler heap = new HeapProfiler();
    private final List<Call> made = new ArrayList<>();
    private int[] takenApart = null;

    Run(Checks checks) {
        this.checks = checks;
    }

    int call(String name, int... args) {
        return call(new Call(name, args));
    }

    int call(Call call) {
        made.add(call);
        takenApart = null;
        // What later calls answer is free, so a test that looks at it would ask for more than the document.
        if (made.size() > MOST_CALLS) {
            throw new IllegalStateException("a test makes more than " + MOST_CALLS + " calls on one object");
        }
        return call.on(heap);
    }

    int callsLeft() {
        return MOST_CALLS - made.size();
    }

    List<Call> made() {
        return made;
    }

    Run twin() {
        Run twin = new Run(checks);
        made.forEach(twin::call);
        return twin;
    }

    void due(int want, String name, int... args) {
        Call call = new Call(name, args);
        checks.due(call.toString(), call(call), want);
    }

    /** The call answers the code and changes nothing; it is made on twins, so this run stays as it is. */
    void refused(int code, String name, int... args) {
        Call call = new Call(name, args);
        checks.due(call.toString(), twin().call(call), code);
        changesNothing(call);
    }

    void changesNothing(Call call) {
        Run asked = twin();
        int[] before = answers(asked, State.QUESTIONS);
        asked.call(call);
        same(call, State.QUESTIONS, before, answers(asked, State.QUESTIONS));
        Run called = twin();
        called.call(call);
        same(call, State.TAKEN_APART, takenApart(), answers(called, State.TAKEN_APART));
    }

    /** What a twin on which the call was not made shows; the same for every call tried in this state. */
    private int[] takenApart() {
        if (takenApart == null) {
            takenApart = answers(twin(), State.TAKEN_APART);
        }
        return takenApart;
    }

    private static int[] answers(Run run, List<Call> calls) {
        return calls.stream().mapToInt(run::call).toArray();
    }

    private void same(Call tried, List<Call> calls, int[] before, int[] after) {
        int differing = Arrays.mismatch(before, after);
        checks.holds("the state after " + tried + " is that before", differing == -1);
        if (differing != -1) {
            checks.due(calls.get(differing) + " after it", after[differing], before[differing]);
        }
    }
}
