/** Every sentence of the document's "Terms" that names a boundary case, each with a test of its own. */
public final class TermsBoundariesTest {
    private static final int BAD_ARG = -1;
    private static final int FULL = -2;
    private static final int NONE = -3;
    private static final String[] OF_A_PLACE = {"alive", "heaviest", "rings", "greatestRing"};
    private static final String[] OF_AN_OBJECT = {"dominator", "depth", "holders"};

    private static final Checks checks = new Checks("TermsBoundariesTest");
    private static final Starts starts = new Starts(checks);

    public static void main(String[] args) {
        atMost512Calls();
        atMost24Objects();
        numbersInside0To23();
        numbersOutside0To23();
        kinds0To3();
        sizes1To99();
        fields0To3();
        roots0To3();
        aReferenceToNone();
        heldByAnotherOne();
        aliveByARoot();
        aliveByAFieldOfAnAliveOne();
        notAliveByItself();
        dumpsAreEmptyAtFirst();
        dumpsCopyAllRoots();
        dumpsCopyWhatIsAlive();
        dumpsStayAsTheyWere();
        onlyAliveObjectsCount();
        someCallsAreAboutAllObjects();
        noneDominatesItself();
        allReferencesAreTaken();
        theDominatorIsTheLast();
        retainsItself();
        aloneInARing();
        anyOneAloneInARing();
        aRingIsAGreatestSet();
        eachComesToEach();
        places0To2();
        otherPlacesBeforeAnythingElse();
        theConstants();
        checks.end();
    }

    private static void atMost512Calls() {
        Run x = starts.none("An object is used for at most 512 calls");
        x.call("make", 0, 0, 7);
        while (x.callsLeft() > 1) {
            x.due(0, "root", 0, 0);
        }
        x.due(7, "retained", 0, 0);
    }

    private static void atMost24Objects() {
        Run x = starts.none("at most 24 OBJECTS, with numbers 0 to 23");
        for (int o = 0; o < 24; o++) {
            x.due(o, "make", o % 4, 0, 1);
        }
        x.refused(FULL, "make", 0, 0, 1);
        x.due(24, "objects");
    }

    private static void numbersInside0To23() {
        Run x = starts.loose("with numbers 0 to 23: inside", 24);
        x.due(-1, "root", 0, 0);
        x.due(-1, "field", 0, 3, 23);
        x.due(-1, "field", 23, 0, 0);
        x.due(-1, "root", 3, 23);
        x.due(23, "root", 3, -1);
        x.call("dump", 0);
        x.call("dump", 1);
        for (int w = 0; w < 3; w++) {
            x.due(-1, "dominator", w, 0);
            x.due(0, "dominator", w, 23);
            x.due(25, "retained", w, 0);
            x.due(24, "retained", w, 23);
            x.due(1, "depth", w, 0);
            x.due(2, "depth", w, 23);
            x.due(0, "way", w, 0, 0);
            x.due(23, "way", w, 23, 1);
            x.due(1, "holders", w, 0);
            x.due(1, "holders", w, 23);
        }
    }

    private static void numbersOutside0To23() {
        for (Run x : starts.all("with numbers 0 to 23: outside")) {
            for (int o : Edges.outside(0, 23)) {
                x.refused(NONE, "field", o, 0, -1);
                x.refused(NONE, "field", o, 3, 7);
                if (o != -1) {
                    x.refused(NONE, "field", 7, 0, o);
                    x.refused(NONE, "root", 0, o);
                }
                for (int w = 0; w < 3; w++) {
                    for (String name : OF_AN_OBJECT) {
                        x.refused(NONE, name, w, o);
                    }
                    x.refused(0, "retained", w, o);
                    x.refused(NONE, "way", w, o, 0);
                }
            }
        }
    }

    private static void kinds0To3() {
        for (Run x : starts.all("each of a KIND, 0 to 3: outside")) {
            for (int kind : Edges.outside(0, 3)) {
                x.refused(BAD_ARG, "make", 0, kind, 1);
            }
        }
        Run x = starts.none("each of a KIND, 0 to 3: inside");
        for (int kind = 0; kind < 4; kind++) {
            x.due(kind, "make", kind, kind, 10 + kind);
        }
        for (int kind = 0; kind < 4; kind++) {
            x.due(10 + kind, "bytes", 0, kind);
            x.due(10 + kind, "retainedByKind", 0, kind);
        }
    }

    private static void sizes1To99() {
        for (Run x : starts.all("with a SIZE, 1 to 99: outside")) {
            for (int size : Edges.outside(1, 99)) {
                x.refused(BAD_ARG, "make", 0, 0, size);
            }
        }
        for (int size = 1; size <= 99; size++) {
            Run x = starts.none("with a SIZE, 1 to 99: inside");
            x.due(0, "make", 0, 0, size);
            x.due(size, "bytes", 0, -1);
        }
    }

    private static void fields0To3() {
        for (Run x : starts.all("four FIELDS, 0 to 3: outside")) {
            for (int f : Edges.outside(0, 3)) {
                x.refused(BAD_ARG, "field", 7, f, -1);
                x.refused(BAD_ARG, "field", 7, f, 1);
            }
        }
        Run x = starts.loose("four FIELDS, 0 to 3: each by itself", 24);
        for (int o : new int[] {0, 11, 23}) {
            for (int f = 0; f < 4; f++) {
                x.due(-1, "field", o, f, 5 + f);
            }
        }
        for (int o : new int[] {0, 11, 23}) {
            x.call("root", 0, o);
            x.due(5, "alive", 0);
            for (int f = 0; f < 4; f++) {
                x.due(5 + f, "field", o, f, -1);
                x.due(4 - f, "alive", 0);
            }
        }
    }

    private static void roots0To3() {
        for (Run x : starts.all("four ROOTS, 0 to 3: outside")) {
            for (int r : Edges.outside(0, 3)) {
                x.refused(BAD_ARG, "make", r, 0, 1);
                x.refused(BAD_ARG, "root", r, -1);
                x.refused(BAD_ARG, "root", r, 7);
            }
        }
        Run x = starts.loose("four ROOTS, 0 to 3: each by itself", 24);
        for (int r = 0; r < 4; r++) {
            x.due(-1, "root", r, 20 + r);
            x.due(r + 1, "alive", 0);
        }
        for (int r = 0; r < 4; r++) {
            x.due(20 + r, "root", r, -1);
            x.due(3 - r, "alive", 0);
        }
    }

    private static void aReferenceToNone() {
        Run x = starts.row("each of which REFERS to an object or to none; and four ROOTS .. does so, too", 3);
        x.due(1, "field", 0, 0, -1);
        x.due(-1, "field", 0, 0, -1);
        x.due(1, "alive", 0);
        x.due(0, "root", 0, -1);
        x.due(-1, "root", 0, -1);
        x.due(0, "alive", 0);
        x.refused(NONE, "field", 0, 0, -2);
        x.refused(NONE, "root", 0, -2);
        x.refused(NONE, "field", 0, 0, NONE);
        x.refused(NONE, "root", 0, NONE);
    }

    private static void heldByAnotherOne() {
        Run x = starts.row("An object is HELD by another one if a field of that one refers to it", 3);
        x.due(0, "holders", 0, 0);
        x.call("root", 1, 0);
        x.due(0, "holders", 0, 0);
        x.call("field", 0, 1, 0);
        x.due(0, "holders", 0, 0);
        x.call("field", 0, 1, 1);
        x.call("field", 0, 2, 1);
        x.call("field", 0, 3, 1);
        x.due(1, "holders", 0, 1);
        x.call("field", 2, 3, 1);
        x.due(2, "holders", 0, 1);
    }

    private static void aliveByARoot() {
        Run x = starts.loose("An object is ALIVE if a root refers to it", 24);
        x.due(0, "alive", 0);
        x.call("root", 3, 23);
        x.due(1, "alive", 0);
        x.call("root", 0, 23);
        x.due(1, "alive", 0);
        x.call("root", 3, -1);
        x.due(1, "alive", 0);
        x.call("root", 0, 22);
        x.due(NONE, "depth", 0, 23);
        x.due(1, "depth", 0, 22);
    }

    private static void aliveByAFieldOfAnAliveOne() {
        Run x = starts.row("or a field of an object that is alive", 24);
        x.due(24, "alive", 0);
        x.call("field", 22, 0, -1);
        x.due(23, "alive", 0);
        x.call("field", 0, 0, -1);
        x.due(1, "alive", 0);
        x.call("root", 3, 1);
        x.due(23, "alive", 0);
    }

    private static void notAliveByItself() {
        Run x = starts.row("ALIVE .. a field of an object that is alive: not of a dead one", 4);
        x.call("field", 3, 0, 0);
        x.call("field", 2, 1, 2);
        x.due(4, "alive", 0);
        x.due(0, "root", 0, -1);
        x.due(0, "alive", 0);
        x.due(10, "garbage");
    }

    private static void dumpsAreEmptyAtFirst() {
        Run x = starts.row("dumps 0 and 1, each empty at first", 24);
        for (int w = 1; w < 3; w++) {
            isEmpty(x, w);
        }
        x.due(0, "fresh");
        x.due(0, "grown");
    }

    private static void isEmpty(Run x, int w) {
        x.due(0, "alive", w);
        x.due(NONE, "heaviest", w);
        x.due(0, "rings", w);
        x.due(0, "greatestRing", w);
        x.due(0, "bytes", w, -1);
        for (int kind = 0; kind < 4; kind++) {
            x.due(0, "bytes", w, kind);
            x.due(0, "retainedByKind", w, kind);
        }
        for (int o = 0; o < 24; o++) {
            for (String name : OF_AN_OBJECT) {
                x.due(NONE, name, w, o);
            }
            x.due(0, "retained", w, o);
            x.due(NONE, "way", w, o, 0);
        }
    }

    private static void dumpsCopyAllRoots() {
        for (int d = 0; d < 2; d++) {
            Run x = starts.loose("a copy of all roots", 24);
            for (int r = 0; r < 4; r++) {
                x.call("root", r, 23 - r);
            }
            x.due(4, "dump", d);
            for (int r = 0; r < 4; r++) {
                x.due(1, "depth", 1 + d, 23 - r);
                x.due(-1, "dominator", 1 + d, 23 - r);
            }
        }
    }

    private static void dumpsCopyWhatIsAlive() {
        for (int d = 0; d < 2; d++) {
            int w = 1 + d;
            Run x = starts.loose("all objects that were alive, with their numbers, kinds, sizes and fields", 24);
            x.call("root", 2, 23);
            for (int f = 0; f < 4; f++) {
                x.call("field", 23, f, f == 0 ? 0 : 10 + f);
            }
            x.call("field", 9, 0, 23);
            x.due(5, "dump", d);
            x.due(5, "alive", w);
            x.due(NONE, "depth", w, 9);
            x.due(1 + 13, "bytes", w, 0);
            x.due(14, "bytes", w, 1);
            x.due(0, "bytes", w, 2);
            x.due(12 + 24, "bytes", w, 3);
            for (int o : new int[] {0, 11, 12, 13}) {
                x.due(23, "dominator", w, o);
                x.due(o + 1, "retained", w, o);
                x.due(23, "way", w, o, 0);
            }
        }
    }

    private static void dumpsStayAsTheyWere() {
        Run x = starts.row("a copy .. at some time", 24);
        x.call("dump", 0);
        x.call("field", 11, 0, -1);
        x.call("dump", 1);
        x.call("root", 0, -1);
        x.call("collect");
        x.call("make", 1, 3, 99);
        x.call("field", 0, 0, 0);
        x.due(24, "alive", 1);
        x.due(300, "bytes", 1, -1);
        x.due(22, "dominator", 1, 23);
        x.due(0, "rings", 1);
        x.due(12, "alive", 2);
        x.due(78, "bytes", 2, -1);
        x.due(1, "depth", 2, 0);
        x.due(1, "alive", 0);
        x.due(99, "bytes", 0, 3);
    }

    private static void onlyAliveObjectsCount() {
        Run x = starts.row("only alive objects count", 3);
        for (int o = 3; o < 6; o++) {
            x.call("make", 1, 2, 99);
            x.call("field", o, 0, 2);
            x.call("field", o, 1, o == 5 ? 3 : o + 1);
            x.call("field", o, 2, o);
        }
        x.call("root", 1, -1);
        x.call("dump", 0);
        x.call("dump", 1);
        for (int w = 0; w < 3; w++) {
            x.due(3, "alive", w);
            x.due(6, "bytes", w, -1);
            x.due(3, "bytes", w, 2);
            x.due(1, "dominator", w, 2);
            x.due(5, "retained", w, 1);
            x.due(0, "retained", w, 3);
            x.due(3, "retainedByKind", w, 2);
            x.due(0, "heaviest", w);
            x.due(3, "depth", w, 2);
            x.due(0, "way", w, 2, 0);
            x.due(1, "holders", w, 2);
            x.due(0, "rings", w);
            x.due(0, "greatestRing", w);
        }
    }

    private static void someCallsAreAboutAllObjects() {
        String sentence = "make, field, root, collect, sweep, objects, garbage and leaked are about all objects";
        Run x = starts.loose(sentence, 24);
        x.refused(FULL, "make", 0, 0, 1);
        x.due(24, "objects");
        x.due(300, "garbage");
        x.due(-1, "field", 23, 0, 22);
        x.due(-1, "field", 22, 0, 23);
        x.due(2, "leaked");
        x.due(-1, "root", 0, 21);
        x.due(21, "sweep");
        x.due(0, "make", 1, 0, 1);
        x.due(2, "collect");
        x.due(2, "objects");
    }

    private static void noneDominatesItself() {
        Run x = starts.row("An object a DOMINATES another one b", 1);
        x.due(-1, "dominator", 0, 0);
        x.call("field", 0, 0, 0);
        x.due(-1, "dominator", 0, 0);
    }

    private static void allReferencesAreTaken() {
        Run x = starts.row("if all references to a referred to none", 4);
        for (int r = 0; r < 4; r++) {
            x.call("root", r, 0);
        }
        for (int f = 0; f < 4; f++) {
            x.call("field", 0, f, 1);
            x.call("field", 3, f, f);
        }
        x.due(0, "dominator", 0, 1);
        x.due(1, "dominator", 0, 2);
        x.due(10, "retained", 0, 0);
        x.due(9, "retained", 0, 1);
        x.call("root", 3, 2);
        x.due(-1, "dominator", 0, 2);
        x.due(-1, "dominator", 0, 1);
        x.due(1, "retained", 0, 0);
    }

    private static void theDominatorIsTheLast() {
        Run x = starts.row("which dominates b and is dominated by all others that do", 24);
        for (int o = 0; o < 24; o++) {
            x.due(o - 1, "dominator", 0, o);
        }
        Run back = starts.loose("which dominates b and is dominated by all others that do: the other way", 24);
        back.call("root", 3, 23);
        for (int o = 23; o > 0; o--) {
            back.call("field", o, 3, o - 1);
        }
        for (int o = 0; o < 24; o++) {
            back.due(o == 23 ? -1 : o + 1, "dominator", 0, o);
        }
    }

    private static void retainsItself() {
        Run x = starts.row("What an object RETAINS are itself and all that it dominates", 24);
        x.due(24, "retained", 0, 23);
        x.due(24 + 23, "retained", 0, 22);
        x.due(300, "retained", 0, 0);
        x.call("root", 1, 23);
        x.due(23, "retained", 0, 22);
        x.due(276, "retained", 0, 0);
    }

    private static void aloneInARing() {
        for (int f = 0; f < 4; f++) {
            Run x = starts.row("an object alone is one if a field of its own refers to it", 2);
            x.due(0, "rings", 0);
            x.due(0, "greatestRing", 0);
            x.call("field", 1, f, 1);
            x.due(1, "rings", 0);
            x.due(1, "greatestRing", 0);
        }
    }

    private static void anyOneAloneInARing() {
        for (int o = 0; o < 24; o++) {
            Run x = starts.row("an object alone is one if a field of its own refers to it: any of the 24", 24);
            x.call("field", o, 2, o);
            x.call("dump", 0);
            x.call("dump", 1);
            for (int w = 0; w < 3; w++) {
                x.due(1, "rings", w);
                x.due(1, "greatestRing", w);
            }
        }
    }

    private static void aRingIsAGreatestSet() {
        Run x = starts.row("A RING is a greatest set of objects", 6);
        x.call("field", 1, 1, 0);
        x.call("field", 3, 1, 2);
        x.due(2, "rings", 0);
        x.due(2, "greatestRing", 0);
        x.call("field", 2, 2, 1);
        x.due(1, "rings", 0);
        x.due(4, "greatestRing", 0);
        x.call("field", 1, 3, 1);
        x.due(1, "rings", 0);
        x.due(4, "greatestRing", 0);
    }

    private static void eachComesToEach() {
        Run x = starts.row("of which each comes to each (by one reference after the other, one at least", 24);
        x.due(0, "rings", 0);
        x.due(0, "greatestRing", 0);
        x.call("field", 23, 3, 22);
        x.due(1, "rings", 0);
        x.due(2, "greatestRing", 0);
        x.call("field", 22, 1, 0);
        x.due(1, "rings", 0);
        x.due(24, "greatestRing", 0);
        Run ends = starts.loose("of which each comes to each: the least and the greatest number", 24);
        ends.call("root", 0, 23);
        ends.call("field", 23, 0, 0);
        ends.due(0, "rings", 0);
        ends.call("field", 0, 0, 23);
        ends.due(1, "rings", 0);
        ends.due(2, "greatestRing", 0);
    }

    private static void places0To2() {
        Run x = starts.row("the heap itself (w = 0), dump 0 (w = 1) or dump 1 (w = 2)", 24);
        x.call("dump", 1);
        x.call("field", 0, 0, -1);
        x.due(1, "alive", 0);
        x.due(0, "alive", 1);
        x.due(24, "alive", 2);
        x.call("field", 0, 0, 23);
        x.call("dump", 0);
        x.call("root", 0, -1);
        x.due(0, "alive", 0);
        x.due(2, "alive", 1);
        x.due(24, "alive", 2);
    }

    private static void otherPlacesBeforeAnythingElse() {
        for (Run x : starts.all("other w answer BAD_ARG before anything else")) {
            for (int w : Edges.outside(0, 2)) {
                for (String name : OF_A_PLACE) {
                    x.refused(BAD_ARG, name, w);
                }
                for (int other : new int[] {Integer.MIN_VALUE, -2, 0, 7, 24, Integer.MAX_VALUE}) {
                    for (String name : OF_AN_OBJECT) {
                        x.refused(BAD_ARG, name, w, other);
                    }
                    x.refused(BAD_ARG, "retained", w, other);
                    x.refused(BAD_ARG, "bytes", w, other);
                    x.refused(BAD_ARG, "retainedByKind", w, other);
                    x.refused(BAD_ARG, "way", w, other, 0);
                    x.refused(BAD_ARG, "way", w, 7, other);
                }
            }
        }
    }

    private static void theConstants() {
        checks.about("The constants");
        checks.due("BAD_ARG", HeapProfiler.BAD_ARG, BAD_ARG);
        checks.due("FULL", HeapProfiler.FULL, FULL);
        checks.due("NONE", HeapProfiler.NONE, NONE);
    }
}
