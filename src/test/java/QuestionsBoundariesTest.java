/** Every sentence of the promises 8 to 23 that names a boundary case, each with a test of its own. */
public final class QuestionsBoundariesTest {
    private static final int BAD_ARG = -1;
    private static final int NONE = -3;
    private static final int LEAST = Integer.MIN_VALUE;
    private static final int GREATEST = Integer.MAX_VALUE;
    /** What is not alive in the places of the start "few", be it dead, gone, never made or no object's number. */
    private static final int[][] NOT_ALIVE_IN_FEW = {
        {LEAST, -2, -1, 0, 3, 4, 5, 6, 8, 23, 24, 32, GREATEST},
        {LEAST, -2, -1, 0, 4, 5, 6, 8, 23, 24, 32, GREATEST},
        {LEAST, -2, -1, 0, 4, 6, 8, 23, 24, 32, GREATEST}
    };

    private static final Checks checks = new Checks("QuestionsBoundariesTest");
    private static final Starts starts = new Starts(checks);

    public static void main(String[] args) {
        objectsFrom0To24();
        objectsAliveOrNot();
        garbageFrom0To2376();
        garbageCountsTheDeadAlone();
        leakedFrom0To24();
        leakedIsWhatSweepWouldLeave();
        aliveFrom0To24();
        bytesOfKindsMinus1To3();
        bytesTestsTheKind();
        bytesFrom0To2376();
        dominatorWithoutOne();
        dominatorOfOneNotAlive();
        retainedOfOneNotAlive();
        retainedFrom1To2376();
        retainedByKindTestsTheKind();
        retainedByKindFrom0To2376();
        retainedByKindTakesAllOfAKindAtOnce();
        heaviestOfSeveral();
        heaviestOfNone();
        heaviestOfOneThatRetains1();
        depthFrom1To24();
        depthOfOneNotAlive();
        wayWithTheLesserNumber();
        wayOfTheLeastNumberOfReferences();
        wayBeyondItsList();
        wayToOneNotAlive();
        holdersFrom0To23();
        holdersOfOneNotAlive();
        ringsFrom0To24();
        greatestRingFrom0To24();
        freshFrom0To24();
        freshLooksAtNumbers();
        grownOfSeveral();
        grownWhenAllShrank();
        grownWithEmptyDumps();
        grownFrom1To2376();
        questionsChangeNothing();
        checks.end();
    }

    /** 24 objects of size 99, of kinds 0 to 3 in turn, of which root 0 refers to the first and each to the next. */
    private static Run greatest(String sentence) {
        Run x = starts.none(sentence);
        for (int o = 0; o < 24; o++) {
            x.call("make", 1, o % 4, 99);
            if (o > 0) {
                x.call("field", o - 1, 0, o);
            }
        }
        x.call("root", 1, -1);
        x.call("root", 0, 0);
        return x;
    }

    private static void objectsFrom0To24() {
        Run x = starts.none("promise 8: The number of objects on the heap, from 0 to 24");
        x.due(0, "objects");
        for (int o = 0; o < 24; o++) {
            x.call("make", 0, 0, 1);
            x.due(o + 1, "objects");
        }
        x.call("make", 0, 0, 1);
        x.due(24, "objects");
    }

    private static void objectsAliveOrNot() {
        Run x = starts.row("promise 8: alive or not", 24);
        x.due(24, "objects");
        x.call("root", 0, -1);
        x.due(24, "objects");
        x.call("collect");
        x.due(0, "objects");
    }

    private static void garbageFrom0To2376() {
        Run x = greatest("promise 9: The sum of the sizes of all objects, from 0 to 24 times 99");
        x.due(0, "garbage");
        x.call("root", 0, 23);
        x.due(23 * 99, "garbage");
        x.call("root", 0, -1);
        x.due(24 * 99, "garbage");
        x.call("collect");
        x.due(0, "garbage");
    }

    private static void garbageCountsTheDeadAlone() {
        Run x = starts.few("promise 9: that are not alive");
        x.due(99 + 15, "garbage");
        x.call("root", 3, 5);
        x.due(99, "garbage");
        x.call("root", 3, 0);
        x.due(15, "garbage");
    }

    private static void leakedFrom0To24() {
        Run x = starts.row("promise 10: The number of objects .. that sweep would leave, from 0 to 24", 24);
        x.due(0, "leaked");
        x.call("root", 0, -1);
        x.due(0, "leaked");
        x.call("field", 23, 3, 23);
        x.due(1, "leaked");
        x.call("field", 23, 3, 1);
        x.due(23, "leaked");
        x.call("field", 23, 3, 0);
        x.due(24, "leaked");
        x.due(0, "sweep");
        x.call("root", 3, 12);
        x.due(0, "leaked");
    }

    private static void leakedIsWhatSweepWouldLeave() {
        Run x = starts.full("promise 10: not alive and that sweep would leave");
        x.due(4, "leaked");
        x.due(24, "objects");
        x.call("sweep");
        x.due(4, "leaked");
        x.due(4, "collect");
        x.due(0, "leaked");
    }

    private static void aliveFrom0To24() {
        Run x = starts.row("promise 11: The number of alive objects in w, from 0 to 24", 24);
        for (int o = 23; o >= 0; o--) {
            x.call("root", 0, o);
            x.due(24 - o, "alive", 0);
        }
        x.call("dump", 1);
        x.call("root", 0, -1);
        x.due(0, "alive", 0);
        x.due(0, "alive", 1);
        x.due(24, "alive", 2);
        x.call("dump", 1);
        x.due(0, "alive", 2);
    }

    private static void bytesOfKindsMinus1To3() {
        Run x = starts.none("promise 12: of a kind; of all for kind -1");
        int[] sizes = {1, 99, 50, 7};
        for (int kind = 0; kind < 4; kind++) {
            x.call("make", kind, kind, sizes[kind]);
        }
        x.call("dump", 0);
        x.call("dump", 1);
        for (int w = 0; w < 3; w++) {
            x.due(157, "bytes", w, -1);
            for (int kind = 0; kind < 4; kind++) {
                x.due(sizes[kind], "bytes", w, kind);
            }
        }
    }

    private static void bytesTestsTheKind() {
        for (Run x : starts.all("promise 12: BAD_ARG if kind is not -1 to 3")) {
            for (int w = 0; w < 3; w++) {
                for (int kind : Edges.outside(-1, 3)) {
                    x.refused(BAD_ARG, "bytes", w, kind);
                }
            }
        }
    }

    private static void bytesFrom0To2376() {
        Run x = greatest("promise 12: The sum of the sizes, from 0 to 24 times 99");
        x.call("dump", 0);
        for (int w = 0; w < 2; w++) {
            x.due(24 * 99, "bytes", w, -1);
            x.due(6 * 99, "bytes", w, 3);
        }
        x.call("root", 0, 23);
        x.due(99, "bytes", 0, -1);
        x.due(99, "bytes", 0, 3);
        x.due(0, "bytes", 0, 0);
        x.call("root", 0, -1);
        x.due(0, "bytes", 0, -1);
        x.due(0, "bytes", 2, -1);
    }

    private static void dominatorWithoutOne() {
        Run x = starts.row("promise 13: -1 if it has none", 3);
        x.due(-1, "dominator", 0, 0);
        x.due(1, "dominator", 0, 2);
        x.call("root", 3, 2);
        x.due(-1, "dominator", 0, 2);
        x.call("root", 3, -1);
        x.call("make", 2, 0, 1);
        x.call("field", 3, 0, 2);
        x.due(-1, "dominator", 0, 2);
    }

    private static void dominatorOfOneNotAlive() {
        Run x = starts.few("promise 13: NONE if o is not alive there");
        for (int w = 0; w < 3; w++) {
            for (int o : NOT_ALIVE_IN_FEW[w]) {
                x.refused(NONE, "dominator", w, o);
            }
        }
        x.due(-1, "dominator", 1, 3);
        x.due(3, "dominator", 2, 5);
    }

    private static void retainedOfOneNotAlive() {
        Run x = starts.few("promise 14: 0 if it is not alive there");
        for (int w = 0; w < 3; w++) {
            for (int o : NOT_ALIVE_IN_FEW[w]) {
                x.refused(0, "retained", w, o);
            }
        }
        x.due(13, "retained", 1, 3);
        x.due(28, "retained", 2, 3);
    }

    private static void retainedFrom1To2376() {
        Run x = greatest("promise 14: The sum of the sizes of the objects that object o retains, to 24 times 99");
        x.call("dump", 1);
        for (int w : new int[] {0, 2}) {
            x.due(24 * 99, "retained", w, 0);
            x.due(23 * 99, "retained", w, 1);
            x.due(99, "retained", w, 23);
        }
        Run least = starts.row("promise 14: The sum of the sizes of the objects that object o retains, from 1", 1);
        least.due(1, "retained", 0, 0);
    }

    private static void retainedByKindTestsTheKind() {
        for (Run x : starts.all("promise 15: BAD_ARG if kind is not 0 to 3")) {
            for (int w = 0; w < 3; w++) {
                for (int kind : Edges.outside(0, 3)) {
                    x.refused(BAD_ARG, "retainedByKind", w, kind);
                }
            }
        }
    }

    private static void retainedByKindFrom0To2376() {
        Run x = greatest("promise 15: The sum of the sizes .. that would not be alive, from 0 to 24 times 99");
        for (int kind = 0; kind < 4; kind++) {
            x.due((24 - kind) * 99, "retainedByKind", 0, kind);
        }
        x.call("root", 0, 22);
        x.due(0, "retainedByKind", 0, 0);
        x.due(0, "retainedByKind", 0, 1);
        x.due(2 * 99, "retainedByKind", 0, 2);
        x.due(99, "retainedByKind", 0, 3);
        x.call("root", 0, -1);
        x.due(0, "retainedByKind", 0, 2);
    }

    private static void retainedByKindTakesAllOfAKindAtOnce() {
        Run x = starts.loose("promise 15: if all references to objects of this kind referred to none", 9);
        x.call("root", 0, 0);
        x.call("root", 1, 4);
        x.call("field", 0, 0, 1);
        x.call("field", 4, 0, 1);
        x.call("field", 4, 1, 0);
        x.due(1 + 5 + 2, "retainedByKind", 0, 0);
        x.due(1, "retained", 0, 0);
        x.due(5, "retained", 0, 4);
        x.call("root", 2, 1);
        x.due(1 + 5, "retainedByKind", 0, 0);
    }

    private static void heaviestOfSeveral() {
        Run x = starts.none("promise 16: of several the least number");
        for (int o = 0; o < 24; o++) {
            x.call("make", 1, 0, o == 0 ? 98 : 99);
        }
        for (int r = 0; r < 4; r++) {
            x.call("root", r, 23 - r);
        }
        x.due(20, "heaviest", 0);
        x.call("root", 3, 0);
        x.due(21, "heaviest", 0);
        x.call("field", 23, 0, 22);
        x.due(21, "heaviest", 0);
        x.call("root", 1, -1);
        x.due(23, "heaviest", 0);
        x.call("field", 21, 0, 20);
        x.due(21, "heaviest", 0);
    }

    private static void heaviestOfNone() {
        Run x = starts.loose("promise 16: NONE if none is alive", 24);
        for (int w = 0; w < 3; w++) {
            x.refused(NONE, "heaviest", w);
        }
        x.call("root", 3, 23);
        x.due(23, "heaviest", 0);
        x.due(NONE, "heaviest", 1);
        x.due(NONE, "heaviest", 2);
    }

    private static void heaviestOfOneThatRetains1() {
        for (int o = 0; o < 24; o++) {
            Run x = starts.none("promise 16: for which retained is greatest, be it 1");
            for (int made = 0; made < 24; made++) {
                x.call("make", 0, 3, made == o ? 1 : 99);
            }
            x.call("root", 0, o);
            x.call("dump", 0);
            x.call("dump", 1);
            for (int w = 0; w < 3; w++) {
                x.due(1, "retained", w, o);
                x.due(o, "heaviest", w);
            }
        }
    }

    private static void depthFrom1To24() {
        Run x = starts.row("promise 17: The least number of references, the root's included, from 1 to 24", 24);
        for (int o = 0; o < 24; o++) {
            x.due(o + 1, "depth", 0, o);
        }
        x.call("field", 23, 0, 0);
        x.due(1, "depth", 0, 0);
        x.call("root", 3, 22);
        x.due(2, "depth", 0, 23);
        x.due(22, "depth", 0, 21);
        x.call("root", 0, -1);
        x.due(24, "depth", 0, 21);
    }

    private static void depthOfOneNotAlive() {
        Run x = starts.few("promise 17: NONE if it is not alive");
        for (int w = 0; w < 3; w++) {
            for (int o : NOT_ALIVE_IN_FEW[w]) {
                x.refused(NONE, "depth", w, o);
            }
        }
        x.due(1, "depth", 1, 3);
        x.due(2, "depth", 2, 5);
    }

    /** The way with the lesser number where two part has the greater ones after it, so that these don't decide. */
    private static void wayWithTheLesserNumber() {
        Run first = starts.loose("promise 18: the lesser number at the first place where it differs: place 0", 24);
        first.call("root", 0, 2);
        first.call("root", 3, 1);
        first.call("field", 2, 0, 3);
        first.call("field", 1, 0, 22);
        first.call("field", 3, 0, 23);
        first.call("field", 22, 0, 23);
        isWay(first, 23, 1, 22, 23);
        Run second = starts.loose("promise 18: the lesser number at the first place where it differs: place 1", 24);
        second.call("root", 0, 20);
        second.call("field", 20, 0, 11);
        second.call("field", 20, 3, 10);
        second.call("field", 11, 0, 0);
        second.call("field", 10, 0, 21);
        second.call("field", 0, 0, 23);
        second.call("field", 21, 0, 23);
        isWay(second, 23, 20, 10, 21, 23);
        Run dead = starts.loose("promise 18: a lesser number that does not lead there, or is no way's", 24);
        dead.call("root", 0, 0);
        dead.call("root", 1, 5);
        dead.call("field", 0, 0, 1);
        dead.call("field", 5, 0, 6);
        dead.call("field", 5, 1, 2);
        dead.call("field", 6, 0, 23);
        dead.call("field", 1, 0, 2);
        dead.call("field", 3, 0, 23);
        isWay(dead, 23, 5, 6, 23);
    }

    private static void isWay(Run x, int o, int... way) {
        x.due(way.length, "depth", 0, o);
        for (int i = 0; i < way.length; i++) {
            x.due(way[i], "way", 0, o, i);
        }
        x.refused(NONE, "way", 0, o, way.length);
        x.refused(NONE, "way", 0, o, -1);
    }

    private static void wayOfTheLeastNumberOfReferences() {
        Run x = starts.row("promise 18: with the least number of references", 24);
        for (int i = 0; i < 24; i++) {
            x.due(i, "way", 0, 23, i);
        }
        x.call("root", 1, 21);
        isWay(x, 23, 21, 22, 23);
        x.call("root", 2, 23);
        isWay(x, 23, 23);
        x.call("field", 23, 0, 0);
        isWay(x, 0, 0);
    }

    private static void wayBeyondItsList() {
        Run x = starts.row("promise 18: NONE if there is none: i beyond the list", 24);
        x.call("dump", 0);
        x.call("dump", 1);
        for (int w = 0; w < 3; w++) {
            x.due(0, "way", w, 23, 0);
            x.due(23, "way", w, 23, 23);
            x.due(0, "way", w, 0, 0);
            for (int i : Edges.outside(0, 23)) {
                x.refused(NONE, "way", w, 23, i);
            }
            x.refused(NONE, "way", w, 0, 1);
            x.refused(NONE, "way", w, 22, 23);
        }
    }

    private static void wayToOneNotAlive() {
        Run x = starts.few("promise 18: NONE if there is none: o is not alive");
        for (int w = 0; w < 3; w++) {
            for (int o : NOT_ALIVE_IN_FEW[w]) {
                for (int i : new int[] {LEAST, -3, -1, 0, 1, GREATEST}) {
                    x.refused(NONE, "way", w, o, i);
                }
            }
        }
        x.due(3, "way", 1, 3, 0);
        x.due(5, "way", 2, 5, 1);
    }

    private static void holdersFrom0To23() {
        Run x = starts.row("promise 19: The number of alive objects in w that hold object o, from 0 to 23", 24);
        x.due(0, "holders", 0, 0);
        for (int o = 1; o < 24; o++) {
            x.call("field", o, 3, 0);
            x.due(o, "holders", 0, 0);
        }
        x.call("dump", 1);
        x.call("field", 0, 0, -1);
        x.due(0, "holders", 0, 0);
        x.due(23, "holders", 2, 0);
        x.due(1, "holders", 2, 23);
    }

    private static void holdersOfOneNotAlive() {
        Run x = starts.few("promise 19: NONE if o is not alive there");
        for (int w = 0; w < 3; w++) {
            for (int o : NOT_ALIVE_IN_FEW[w]) {
                x.refused(NONE, "holders", w, o);
            }
        }
        x.due(0, "holders", 1, 3);
        x.due(1, "holders", 2, 5);
    }

    private static void ringsFrom0To24() {
        Run x = starts.row("promise 20: The number of rings in w, from 0 to 24", 24);
        x.due(0, "rings", 0);
        for (int o = 0; o < 24; o++) {
            x.call("field", o, 3, o);
            x.due(o + 1, "rings", 0);
        }
        x.call("dump", 0);
        for (int o = 1; o < 24; o += 2) {
            x.call("field", o, 1, o - 1);
        }
        x.due(12, "rings", 0);
        x.due(2, "greatestRing", 0);
        x.call("field", 23, 2, 0);
        x.due(1, "rings", 0);
        x.due(24, "rings", 1);
        x.due(0, "rings", 2);
    }

    private static void greatestRingFrom0To24() {
        Run x = starts.row("promise 21: the greatest ring in w; 0 without one, to 24", 24);
        for (int w = 0; w < 3; w++) {
            x.due(0, "greatestRing", w);
        }
        for (int o = 23; o >= 0; o--) {
            x.call("field", 23, 3, o);
            x.due(24 - o, "greatestRing", 0);
        }
        x.call("dump", 1);
        x.call("root", 0, -1);
        x.due(0, "greatestRing", 0);
        x.due(0, "greatestRing", 1);
        x.due(24, "greatestRing", 2);
    }

    private static void freshFrom0To24() {
        Run x = starts.row("promise 22: The number of objects whose number is alive in dump 1 but not in dump 0", 24);
        x.due(0, "fresh");
        x.call("dump", 0);
        x.due(0, "fresh");
        x.call("dump", 1);
        x.due(0, "fresh");
        x.call("root", 0, 23);
        x.call("dump", 0);
        x.due(23, "fresh");
        x.call("root", 0, -1);
        x.call("dump", 0);
        x.due(24, "fresh");
        x.call("dump", 1);
        x.due(0, "fresh");
    }

    private static void freshLooksAtNumbers() {
        Run x = starts.row("promise 22: whose number", 2);
        x.call("dump", 0);
        x.call("root", 0, -1);
        x.call("collect");
        x.call("make", 3, 3, 99);
        x.call("make", 2, 3, 99);
        x.call("dump", 1);
        x.due(0, "fresh");
        x.call("make", 1, 3, 99);
        x.due(0, "fresh");
        x.call("dump", 1);
        x.due(1, "fresh");
    }

    /** The kinds' bytes in dump 0 and in dump 1, each of one object. */
    private static Run dumped(String sentence, int[] before, int[] after) {
        Run x = starts.none(sentence);
        for (int d = 0; d < 2; d++) {
            int[] sizes = d == 0 ? before : after;
            for (int kind = 0; kind < 4; kind++) {
                x.call("root", kind, -1);
                x.call("make", kind, kind, sizes[kind]);
            }
            x.call("dump", d);
        }
        return x;
    }

    private static void grownOfSeveral() {
        String sentence = "promise 23: of several the least";
        dumped(sentence, new int[] {5, 5, 5, 5}, new int[] {5, 5, 5, 5}).due(0, "grown");
        dumped(sentence, new int[] {5, 5, 5, 5}, new int[] {4, 6, 6, 6}).due(1, "grown");
        dumped(sentence, new int[] {5, 9, 4, 5}, new int[] {6, 5, 6, 7}).due(2, "grown");
        dumped(sentence, new int[] {9, 9, 9, 9}, new int[] {8, 8, 9, 9}).due(2, "grown");
        dumped(sentence, new int[] {5, 5, 5, 5}, new int[] {6, 6, 6, 7}).due(3, "grown");
    }

    private static void grownWhenAllShrank() {
        String sentence = "promise 23: greatest, be it below 0";
        dumped(sentence, new int[] {9, 9, 9, 9}, new int[] {1, 2, 3, 4}).due(3, "grown");
        dumped(sentence, new int[] {9, 9, 9, 9}, new int[] {1, 2, 4, 4}).due(2, "grown");
        dumped(sentence, new int[] {9, 9, 9, 9}, new int[] {8, 8, 8, 8}).due(0, "grown");
        dumped(sentence, new int[] {99, 99, 99, 99}, new int[] {1, 2, 1, 1}).due(1, "grown");
    }

    private static void grownWithEmptyDumps() {
        Run x = starts.none("promise 23: empty dumps");
        x.due(0, "grown");
        x.call("make", 0, 3, 1);
        x.due(0, "grown");
        x.call("dump", 1);
        x.due(3, "grown");
        x.call("dump", 0);
        x.due(0, "grown");
        x.call("root", 0, -1);
        x.call("dump", 1);
        x.due(0, "grown");
    }

    private static void grownFrom1To2376() {
        Run x = starts.none("promise 23: one kind, from 1 object to 24, all of the greatest size");
        for (int o = 0; o < 24; o++) {
            x.call("make", 0, 3, 99);
            x.call("field", o, 0, o - 1);
            x.call("dump", 1);
            x.due(3, "grown");
        }
        x.call("dump", 0);
        x.due(0, "grown");
        x.call("root", 0, 22);
        x.call("dump", 1);
        x.due(0, "grown");
        x.call("root", 0, -1);
        x.call("dump", 1);
        x.due(0, "grown");
    }

    private static void questionsChangeNothing() {
        for (Run x : starts.all("promises 8 to 23: a question changes nothing")) {
            State.QUESTIONS.forEach(x::changesNothing);
            for (int w = 0; w < 3; w++) {
                for (int o : new int[] {0, 1, 5, 7, 20, 23}) {
                    x.changesNothing(new Call("dominator", w, o));
                    x.changesNothing(new Call("retained", w, o));
                    x.changesNothing(new Call("holders", w, o));
                    x.changesNothing(new Call("way", w, o, 0));
                }
            }
        }
    }
}
