import java.util.ArrayList;
import java.util.List;

/** A dump answers what the heap answered when it was copied, whatever becomes of the heap and of the other dump. */
public final class DumpsTest {
    private static final int NONE = -3;
    /** So few that a twin can be asked all of them within its 512 calls. */
    private static final int ASKED_AT_ONCE = 200;

    private static final Checks checks = new Checks("DumpsTest");
    private static final Starts starts = new Starts(checks);

    public static void main(String[] args) {
        for (List<Call> later : changesOfTheHeap()) {
            freshAndGrownLookAtTheDumpsAlone(later);
            for (int d = 0; d < 2; d++) {
                aSmallHeapAnswersTheSame(d, later);
                anyHeapAnswersTheSame(d, later);
                List<Call> andTheOtherDump = joined(later, List.of(new Call("dump", 1 - d)));
                aSmallHeapAnswersTheSame(d, andTheOtherDump);
                anyHeapAnswersTheSame(d, andTheOtherDump);
            }
        }
        checks.end();
    }

    private static List<List<Call>> changesOfTheHeap() {
        return List.of(
                List.of(),
                allUnheld(new Call("collect")),
                allUnheld(new Call("sweep")),
                turnedAround(),
                filledAnew());
    }

    private static List<Call> joined(List<Call> first, List<Call> second) {
        List<Call> calls = new ArrayList<>(first);
        calls.addAll(second);
        return calls;
    }

    /** No root or field refers to any object, so that all of them go. */
    private static List<Call> allUnheld(Call goes) {
        List<Call> calls = new ArrayList<>();
        for (int r = 0; r < 4; r++) {
            calls.add(new Call("root", r, -1));
        }
        for (int o = 0; o < 24; o++) {
            for (int f = 0; f < 4; f++) {
                calls.add(new Call("field", o, f, -1));
            }
        }
        calls.add(goes);
        return calls;
    }

    /** All objects stay, but roots and fields refer to other ones. */
    private static List<Call> turnedAround() {
        List<Call> calls = new ArrayList<>();
        for (int r = 0; r < 4; r++) {
            calls.add(new Call("root", r, r % 2));
        }
        for (int o = 0; o < 24; o++) {
            for (int f = 0; f < 4; f++) {
                calls.add(new Call("field", o, f, f == 0 ? o : o - f));
            }
        }
        return calls;
    }

    /** 24 objects of other kinds and sizes in a ring, in place of those before. */
    private static List<Call> filledAnew() {
        List<Call> calls = allUnheld(new Call("collect"));
        for (int o = 0; o < 24; o++) {
            calls.add(new Call("make", 1, 3 - o % 4, 99 - o));
        }
        for (int o = 0; o < 24; o++) {
            calls.add(new Call("field", o, 1, (o + 23) % 24));
        }
        return calls;
    }

    /** Root 0 refers to 5, that to 4 and 3, both of these to 2; 2 and 1 are a ring; 0 is dead and holds 2. */
    private static Run small(String sentence) {
        Run x = starts.loose(sentence, 6);
        x.call("root", 0, 5);
        x.call("field", 5, 0, 4);
        x.call("field", 5, 1, 3);
        x.call("field", 4, 0, 2);
        x.call("field", 3, 0, 2);
        x.call("field", 2, 3, 1);
        x.call("field", 1, 2, 2);
        x.call("field", 0, 0, 2);
        return x;
    }

    private static void aSmallHeapAnswersTheSame(int d, List<Call> later) {
        Run x = small("a copy of all roots and all objects that were alive .. at some time");
        x.due(5, "dump", d);
        later.forEach(x::call);
        int w = 1 + d;
        x.due(5, "alive", w);
        x.due(5, "heaviest", w);
        x.due(1, "rings", w);
        x.due(2, "greatestRing", w);
        x.due(20, "bytes", w, -1);
        answersByKind(x, "bytes", w, 5, 8, 3, 4);
        answersByKind(x, "retainedByKind", w, 5, 20, 5, 4);
        answersByObject(x, "dominator", w, NONE, 2, 5, 5, 5, -1, NONE);
        answersByObject(x, "retained", w, 0, 2, 5, 4, 5, 20, 0);
        answersByObject(x, "depth", w, NONE, 4, 3, 2, 2, 1, NONE);
        answersByObject(x, "holders", w, NONE, 1, 3, 1, 1, 0, NONE);
        int[] way = {5, 3, 2, 1, NONE};
        for (int i = 0; i < way.length; i++) {
            x.due(way[i], "way", w, 1, i);
        }
    }

    private static void answersByKind(Run x, String name, int w, int... wanted) {
        for (int kind = 0; kind < wanted.length; kind++) {
            x.due(wanted[kind], name, w, kind);
        }
    }

    private static void answersByObject(Run x, String name, int w, int... wanted) {
        for (int o = 0; o < wanted.length; o++) {
            x.due(wanted[o], name, w, o);
        }
    }

    private static void anyHeapAnswersTheSame(int d, List<Call> later) {
        String sentence = "a copy of all roots and all objects that were alive, as the heap was";
        List<Run> heaps = new ArrayList<>(starts.all(sentence));
        heaps.add(starts.row(sentence, 24));
        for (Run heap : heaps) {
            List<Call> ofTheHeap = State.questionsOf(0);
            List<Call> ofTheDump = State.questionsOf(1 + d);
            for (int from = 0; from < ofTheHeap.size(); from += ASKED_AT_ONCE) {
                int to = Math.min(from + ASKED_AT_ONCE, ofTheHeap.size());
                Run before = heap.twin();
                Run after = heap.twin();
                after.call("dump", d);
                later.forEach(after::call);
                for (int i = from; i < to; i++) {
                    Call asked = ofTheDump.get(i);
                    checks.due(asked.toString(), after.call(asked), before.call(ofTheHeap.get(i)));
                }
            }
        }
    }

    private static void freshAndGrownLookAtTheDumpsAlone(List<Call> later) {
        Run x = small("promises 22 and 23: in dump 1 .. in dump 0, not on the heap");
        x.call("root", 0, 2);
        x.due(2, "dump", 0);
        x.call("root", 0, 5);
        x.due(5, "dump", 1);
        later.forEach(x::call);
        x.due(3, "fresh");
        x.due(1, "grown");
        x.due(2, "alive", 1);
        x.due(5, "alive", 2);
    }
}
