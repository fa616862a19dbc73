import java.util.ArrayList;
import java.util.List;

/** The calls by which a state is looked at. */
final class State {
    /** Calls that leave the state as it is. */
    static final List<Call> QUESTIONS = questions();
    /** Calls that show every root and field, and every kind and size, but leave nothing as it was. */
    static final List<Call> TAKEN_APART = takenApart();

    private State() {
    }

    private static List<Call> questions() {
        List<Call> calls = new ArrayList<>();
        for (String name : new String[] {"objects", "garbage", "leaked", "fresh", "grown"}) {
            calls.add(new Call(name));
        }
        for (int w = 0; w < 3; w++) {
            calls.addAll(questionsOfAllObjects(w));
            for (int o = 0; o < 24; o++) {
                calls.add(new Call("depth", w, o));
            }
        }
        return calls;
    }

    /** All that can be asked of a place. */
    static List<Call> questionsOf(int w) {
        List<Call> calls = questionsOfAllObjects(w);
        for (int o = 0; o < 24; o++) {
            for (String name : new String[] {"dominator", "retained", "depth", "holders"}) {
                calls.add(new Call(name, w, o));
            }
            for (int i = 0; i < 24; i++) {
                calls.add(new Call("way", w, o, i));
            }
        }
        return calls;
    }

    private static List<Call> questionsOfAllObjects(int w) {
        List<Call> calls = new ArrayList<>();
        for (String name : new String[] {"alive", "heaviest", "rings", "greatestRing"}) {
            calls.add(new Call(name, w));
        }
        calls.add(new Call("bytes", w, -1));
        for (int kind = 0; kind < 4; kind++) {
            calls.add(new Call("bytes", w, kind));
            calls.add(new Call("retainedByKind", w, kind));
        }
        return calls;
    }

    private static List<Call> takenApart() {
        List<Call> calls = new ArrayList<>();
        for (int o = 0; o < 24; o++) {
            for (int w = 1; w < 3; w++) {
                calls.add(new Call("dominator", w, o));
                calls.add(new Call("retained", w, o));
                calls.add(new Call("holders", w, o));
            }
        }
        for (int r = 0; r < 4; r++) {
            calls.add(new Call("root", r, -1));
        }
        for (int o = 0; o < 24; o++) {
            for (int f = 0; f < 4; f++) {
                calls.add(new Call("field", o, f, -1));
            }
        }
        for (int o = 0; o < 24; o++) {
            // An object that is not alive shows its kind and size only once a root refers to it.
            calls.add(new Call("root", 0, o));
            for (int kind = 0; kind < 4; kind++) {
                calls.add(new Call("bytes", 0, kind));
            }
        }
        return calls;
    }
}
