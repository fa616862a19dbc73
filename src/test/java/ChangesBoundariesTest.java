/** Every sentence of the promises 1 to 7 that names a boundary case, each with a test of its own. */
public final class ChangesBoundariesTest {
    private static final int BAD_ARG = -1;
    private static final int FULL = -2;
    private static final int NONE = -3;
    private static final int LEAST = Integer.MIN_VALUE;
    private static final int GREATEST = Integer.MAX_VALUE;

    private static final Checks checks = new Checks("ChangesBoundariesTest");
    private static final Starts starts = new Starts(checks);

    public static void main(String[] args) {
        newHasNoObject();
        newHasRootsToNone();
        newHasEmptyDumps();
        newAsksAnswerAsEmpty();
        newOnesAreApart();
        madeFieldsReferToNone();
        madeGetsTheLeastNumber();
        madeIsOfThisKindAndSize();
        madeIsReferredToByTheRoot();
        makeTestsItsArguments();
        makeTestsArgumentsBeforeFull();
        makeIsFullAt24();
        makeIsFullNoMoreOnceOneGoes();
        fieldToNone();
        fieldToItself();
        fieldTestsF();
        fieldTestsFBeforeObjects();
        fieldWithoutObjectO();
        fieldWithoutObjectP();
        fieldAnswersWhatItReferredTo();
        rootToNone();
        rootTestsR();
        rootTestsRBeforeP();
        rootWithoutObjectP();
        rootAnswersWhatItReferredTo();
        collectWithNoneToGo();
        collectAll();
        collectLeavesAllThatAreAlive();
        sweepWithNoneToGo();
        sweepWhatNothingRefersTo();
        sweepAgainAndAgain();
        sweepLeavesWhatARootRefersTo();
        sweepLeavesWhatAFieldRefersTo();
        sweepIsOfTheHeapAlone();
        dumpTestsD();
        dumpOfAnEmptyHeap();
        dumpOfAFullHeap();
        dumpAnswersTheAlive();
        dumpLeavesTheHeap();
        dumpTakesThePlaceOfTheOneBefore();
        dumpLeavesTheOtherOne();
        checks.end();
    }

    private static void newHasNoObject() {
        Run x = starts.none("promise 1: No object");
        x.due(0, "objects");
        for (int o = 0; o < 24; o++) {
            x.refused(NONE, "field", o, 0, -1);
            x.refused(NONE, "root", 0, o);
            x.due(NONE, "depth", 0, o);
        }
        x.due(0, "make", 0, 0, 1);
    }

    private static void newHasRootsToNone() {
        Run x = starts.none("promise 1: all roots refer to none");
        for (int r = 0; r < 4; r++) {
            x.due(-1, "root", r, -1);
        }
        x.due(0, "alive", 0);
    }

    private static void newHasEmptyDumps() {
        Run x = starts.none("promise 1: both dumps are empty");
        for (int w = 1; w < 3; w++) {
            x.due(0, "alive", w);
            for (int o = 0; o < 24; o++) {
                x.due(NONE, "depth", w, o);
            }
        }
        x.due(0, "fresh");
    }

    private static void newAsksAnswerAsEmpty() {
        Run x = starts.none("promise 1: what a new object answers");
        x.due(0, "collect");
        x.due(0, "sweep");
        x.due(0, "garbage");
        x.due(0, "leaked");
        x.due(0, "fresh");
        x.due(0, "grown");
        for (int w = 0; w < 3; w++) {
            x.due(0, "alive", w);
            x.due(0, "bytes", w, -1);
            x.due(0, "bytes", w, 0);
            x.due(0, "bytes", w, 3);
            x.due(NONE, "dominator", w, 0);
            x.due(0, "retained", w, 0);
            x.due(0, "retainedByKind", w, 0);
            x.due(0, "retainedByKind", w, 3);
            x.due(NONE, "heaviest", w);
            x.due(NONE, "depth", w, 0);
            x.due(NONE, "way", w, 0, 0);
            x.due(NONE, "holders", w, 0);
            x.due(0, "rings", w);
            x.due(0, "greatestRing", w);
        }
    }

    private static void newOnesAreApart() {
        String sentence = "promise 1: No object, all roots refer to none, both dumps are empty: whatever others have";
        Run old = starts.row(sentence, 24);
        old.call("dump", 0);
        old.call("dump", 1);
        Run x = starts.none(sentence);
        x.due(0, "objects");
        for (int w = 0; w < 3; w++) {
            x.due(0, "alive", w);
        }
        x.due(-1, "root", 0, -1);
        x.due(0, "make", 3, 3, 99);
        x.due(-1, "field", 0, 0, 0);
        x.due(1, "dump", 1);
        checks.about(sentence + ", and the others stay as they are");
        old.due(24, "objects");
        for (int w = 0; w < 3; w++) {
            old.due(24, "alive", w);
            old.due(300, "bytes", w, -1);
            old.due(66, "bytes", w, 0);
            old.due(0, "rings", w);
        }
        old.due(0, "root", 0, -1);
        old.due(-1, "root", 3, -1);
        old.due(1, "field", 0, 0, -1);
    }

    private static void madeFieldsReferToNone() {
        for (String goes : new String[] {"collect", "sweep"}) {
            Run x = starts.loose("promise 2: whose fields refer to none", 24);
            for (int o = 0; o < 24; o++) {
                for (int f = 0; f < 4; f++) {
                    x.call("field", o, f, o == 0 ? -1 : o - 1);
                }
            }
            x.due(24, goes);
            for (int o = 0; o < 24; o++) {
                x.due(o, "make", 0, 0, 1);
            }
            for (int o = 0; o < 24; o++) {
                for (int f = 0; f < 4; f++) {
                    x.due(-1, "field", o, f, -1);
                }
            }
        }
    }

    private static void madeGetsTheLeastNumber() {
        Run x = starts.row("promise 2: with the least number that no object has", 24);
        x.call("field", 4, 0, 6);
        x.call("field", 10, 0, 13);
        x.call("field", 22, 0, -1);
        x.call("root", 0, 1);
        x.due(5, "collect");
        for (int o : new int[] {0, 5, 11, 12, 23}) {
            x.due(o, "make", 3, 0, 1);
        }
        x.refused(FULL, "make", 3, 0, 1);
    }

    private static void madeIsOfThisKindAndSize() {
        Run x = starts.row("promise 2: Makes an object of this kind and size, whatever had its number before", 24);
        x.call("dump", 0);
        x.call("root", 0, -1);
        x.due(24, "collect");
        for (int o = 0; o < 24; o++) {
            x.due(o, "make", 2, 3 - o % 4, 99 - o);
            x.due(99 - o, "bytes", 0, 3 - o % 4);
            x.due(99 - o, "bytes", 0, -1);
        }
        x.due(300, "bytes", 1, -1);
        x.due(66, "bytes", 1, 0);
    }

    private static void madeIsReferredToByTheRoot() {
        for (int r = 0; r < 4; r++) {
            Run x = starts.loose("promise 2: root r refers to it from now on", 4);
            for (int other = 0; other < 4; other++) {
                x.call("root", other, other);
            }
            x.due(4, "make", r, 0, 1);
            x.due(5, "objects");
            x.due(4, "alive", 0);
            for (int other = 0; other < 4; other++) {
                x.due(other == r ? 4 : other, "root", other, -1);
            }
            x.due(-1, "root", r, r);
        }
    }

    private static void makeTestsItsArguments() {
        for (Run x : starts.all("promise 2: r not 0 to 3, kind not 0 to 3 or size not 1 to 99 answers BAD_ARG")) {
            for (int wrong : Edges.outside(0, 3)) {
                x.refused(BAD_ARG, "make", wrong, 3, 99);
                x.refused(BAD_ARG, "make", 3, wrong, 99);
                x.refused(BAD_ARG, "make", wrong, wrong, wrong);
            }
            for (int size : Edges.outside(1, 99)) {
                x.refused(BAD_ARG, "make", 3, 3, size);
            }
        }
        for (int r : new int[] {0, 3}) {
            for (int kind : new int[] {0, 3}) {
                for (int size : new int[] {1, 99}) {
                    Run x = starts.none("promise 2: just inside");
                    x.due(0, "make", r, kind, size);
                    x.due(size, "bytes", 0, kind);
                    x.due(0, "root", r, -1);
                }
            }
        }
    }

    private static void makeTestsArgumentsBeforeFull() {
        Run x = starts.full("promise 2: BAD_ARG is tested before FULL");
        for (int wrong : new int[] {LEAST, -1, 4, GREATEST}) {
            x.refused(BAD_ARG, "make", wrong, 0, 1);
            x.refused(BAD_ARG, "make", 0, wrong, 1);
        }
        for (int size : new int[] {LEAST, 0, 100, GREATEST}) {
            x.refused(BAD_ARG, "make", 0, 0, size);
        }
    }

    private static void makeIsFullAt24() {
        for (int r = 0; r < 4; r++) {
            Run x = starts.loose("promise 2: FULL", 23);
            x.due(23, "make", r, 0, 1);
            x.refused(FULL, "make", r, 3, 99);
            x.due(23, "root", r, -1);
            x.refused(FULL, "make", r, 0, 1);
            starts.full("promise 2: FULL, with alive and dead objects").refused(FULL, "make", r, 0, 1);
        }
    }

    private static void makeIsFullNoMoreOnceOneGoes() {
        Run x = starts.row("promise 2: FULL no more", 24);
        x.refused(FULL, "make", 1, 0, 1);
        x.due(23, "field", 22, 0, -1);
        x.refused(FULL, "make", 1, 0, 1);
        x.due(1, "collect");
        x.due(23, "make", 1, 0, 1);
        x.refused(FULL, "make", 1, 0, 1);
    }

    private static void fieldToNone() {
        Run x = starts.row("promise 3: or to none if p is -1", 2);
        x.due(1, "field", 0, 0, -1);
        x.due(1, "alive", 0);
        x.due(-1, "field", 0, 0, -1);
        x.due(-1, "field", 0, 3, -1);
        x.due(-1, "field", 1, 0, -1);
        x.due(2, "objects");
    }

    private static void fieldToItself() {
        Run x = starts.row("promise 3: Field f of object o refers to object p: p may be o", 1);
        x.due(-1, "field", 0, 3, 0);
        x.due(0, "field", 0, 3, 0);
        x.due(1, "rings", 0);
    }

    private static void fieldTestsF() {
        for (Run x : starts.all("promise 3: f not 0 to 3 answers BAD_ARG")) {
            for (int f : Edges.outside(0, 3)) {
                x.refused(BAD_ARG, "field", 7, f, 1);
                x.refused(BAD_ARG, "field", 5, f, -1);
            }
        }
    }

    private static void fieldTestsFBeforeObjects() {
        for (Run x : starts.all("promise 3: BAD_ARG is tested before NONE")) {
            for (int f : new int[] {LEAST, -1, 4, GREATEST}) {
                for (int nobody : new int[] {LEAST, -2, 24, GREATEST}) {
                    x.refused(BAD_ARG, "field", nobody, f, 1);
                    x.refused(BAD_ARG, "field", 7, f, nobody);
                    x.refused(BAD_ARG, "field", nobody, f, nobody);
                }
            }
        }
    }

    private static void fieldWithoutObjectO() {
        Run few = starts.few("promise 3: NONE if there is no object o");
        for (int f = 0; f < 4; f++) {
            for (int o : new int[] {LEAST, -1, 3, 4, 6, 8, 23, 24, GREATEST}) {
                few.refused(NONE, "field", o, f, -1);
                few.refused(NONE, "field", o, f, 1);
                few.refused(NONE, "field", o, f, o == -1 ? 3 : o);
            }
        }
        Run full = starts.full("promise 3: NONE if there is no object o, of 24");
        full.due(-1, "field", 23, 0, 0);
        full.due(-1, "field", 0, 1, 23);
        full.refused(NONE, "field", 24, 0, 0);
        full.refused(NONE, "field", -1, 0, 0);
    }

    private static void fieldWithoutObjectP() {
        Run few = starts.few("promise 3: NONE if there is .. no object p and p is not -1");
        for (int f = 0; f < 4; f++) {
            for (int p : new int[] {LEAST, -3, -2, 3, 4, 6, 8, 23, 24, GREATEST}) {
                few.refused(NONE, "field", 7, f, p);
                few.refused(NONE, "field", 5, f, p);
            }
        }
        few.due(1, "field", 7, 0, 0);
        few.due(0, "field", 7, 0, 5);
        few.due(5, "field", 7, 0, -1);
    }

    private static void fieldAnswersWhatItReferredTo() {
        Run x = starts.loose("promise 3: Otherwise what it referred to, or -1", 24);
        for (int f = 0; f < 4; f++) {
            x.due(-1, "field", 12, f, 0);
            for (int p = 1; p < 24; p++) {
                x.due(p - 1, "field", 12, f, p);
            }
            x.due(23, "field", 12, f, -1);
            x.due(-1, "field", 12, f, -1);
        }
    }

    private static void rootToNone() {
        Run x = starts.row("promise 4: or to none if p is -1", 2);
        x.due(0, "root", 0, -1);
        x.due(-1, "root", 0, -1);
        x.due(-1, "root", 3, -1);
        x.due(0, "alive", 0);
        x.due(2, "objects");
    }

    private static void rootTestsR() {
        for (Run x : starts.all("promise 4: r not 0 to 3 answers BAD_ARG")) {
            for (int r : Edges.outside(0, 3)) {
                x.refused(BAD_ARG, "root", r, -1);
                x.refused(BAD_ARG, "root", r, 5);
            }
        }
    }

    private static void rootTestsRBeforeP() {
        for (Run x : starts.all("promise 4: BAD_ARG is tested before NONE")) {
            for (int r : new int[] {LEAST, -1, 4, GREATEST}) {
                for (int nobody : new int[] {LEAST, -2, 24, GREATEST}) {
                    x.refused(BAD_ARG, "root", r, nobody);
                }
            }
        }
    }

    private static void rootWithoutObjectP() {
        Run few = starts.few("promise 4: NONE if there is no object p and p is not -1");
        for (int r = 0; r < 4; r++) {
            for (int p : new int[] {LEAST, -3, -2, 3, 4, 6, 8, 23, 24, GREATEST}) {
                few.refused(NONE, "root", r, p);
            }
        }
        few.due(-1, "root", 1, 5);
        few.due(5, "root", 1, 0);
        Run full = starts.full("promise 4: NONE if there is no object p, of 24");
        full.refused(NONE, "root", 0, 24);
        full.due(20, "root", 0, 23);
        full.due(23, "root", 0, 0);
    }

    private static void rootAnswersWhatItReferredTo() {
        Run x = starts.loose("promise 4: Otherwise what it referred to, or -1", 24);
        for (int r = 0; r < 4; r++) {
            x.due(-1, "root", r, 0);
            for (int p = 1; p < 24; p++) {
                x.due(p - 1, "root", r, p);
            }
            x.due(23, "root", r, 23);
            x.due(23, "root", r, -1);
            x.due(-1, "root", r, -1);
        }
    }

    private static void collectWithNoneToGo() {
        starts.none("promise 5: none to go, on an empty heap").refused(0, "collect");
        starts.row("promise 5: none to go, all alive", 24).refused(0, "collect");
        Run x = starts.full("promise 5: none to go the second time");
        x.call("collect");
        x.refused(0, "collect");
    }

    private static void collectAll() {
        Run loose = starts.loose("promise 5: All objects that are not alive go", 24);
        loose.due(24, "collect");
        loose.due(0, "objects");
        Run ring = starts.row("promise 5: All objects that are not alive go: a ring, too", 24);
        ring.call("field", 23, 0, 0);
        ring.call("field", 5, 3, 5);
        ring.refused(0, "collect");
        ring.due(0, "root", 0, -1);
        ring.due(24, "collect");
        ring.due(0, "objects");
        ring.refused(NONE, "field", 23, 0, -1);
        ring.due(0, "make", 0, 0, 1);
    }

    private static void collectLeavesAllThatAreAlive() {
        Run x = starts.few("promise 5: Answers how many");
        x.due(2, "collect");
        x.due(3, "objects");
        x.due(0, "garbage");
        x.due(3, "alive", 0);
        x.due(4, "alive", 1);
        x.due(5, "alive", 2);
        x.due(1, "field", 7, 0, 1);
        x.refused(NONE, "field", 5, 0, 5);
        x.refused(NONE, "field", 0, 0, -1);
    }

    private static void sweepWithNoneToGo() {
        starts.none("promise 6: none to go, on an empty heap").refused(0, "sweep");
        starts.row("promise 6: none to go, all alive", 24).refused(0, "sweep");
        Run x = starts.full("promise 6: none to go the second time");
        x.call("sweep");
        x.refused(0, "sweep");
    }

    private static void sweepWhatNothingRefersTo() {
        Run x = starts.loose("promise 6: All objects go that nothing refers to", 24);
        x.due(24, "sweep");
        x.due(0, "objects");
        x.refused(NONE, "root", 0, 23);
        x.due(0, "make", 0, 0, 1);
    }

    private static void sweepAgainAndAgain() {
        Run row = starts.row("promise 6: again and again", 24);
        row.due(0, "root", 0, -1);
        row.due(24, "sweep");
        Run back = starts.loose("promise 6: again and again, the greatest number first", 24);
        for (int o = 23; o > 0; o--) {
            back.call("field", o, 3, o - 1);
        }
        back.due(24, "sweep");
        Run some = starts.row("promise 6: again and again, up to one that stays", 24);
        some.call("root", 0, 23);
        some.due(23, "sweep");
        some.due(1, "objects");
        some.due(-1, "field", 23, 0, -1);
    }

    private static void sweepLeavesWhatARootRefersTo() {
        for (int r = 0; r < 4; r++) {
            Run x = starts.loose("promise 6: neither a root", 24);
            x.call("root", r, 20 + r);
            x.due(23, "sweep");
            x.due(20 + r, "root", r, -1);
            x.due(1, "sweep");
        }
    }

    private static void sweepLeavesWhatAFieldRefersTo() {
        for (int f = 0; f < 4; f++) {
            Run x = starts.loose("promise 6: nor a field of an object that is still there", 24);
            x.call("field", 23, f, 23);
            x.call("field", 10, f, 11);
            x.call("field", 11, f, 10);
            x.call("field", 11, 3 - f, 0);
            x.call("field", 1, f, 10);
            x.due(20, "sweep");
            x.due(4, "objects");
            x.due(23, "field", 23, f, -1);
            x.due(1, "sweep");
            x.due(11, "field", 10, f, -1);
            x.due(3, "sweep");
        }
    }

    private static void sweepIsOfTheHeapAlone() {
        Run x = starts.few("promise 6: Answers how many");
        x.due(1, "sweep");
        x.due(4, "objects");
        x.due(15, "garbage");
        x.due(3, "alive", 0);
        x.due(4, "alive", 1);
        x.due(5, "alive", 2);
        x.refused(NONE, "field", 0, 0, -1);
        x.due(5, "field", 5, 0, 5);
    }

    private static void dumpTestsD() {
        for (Run x : starts.all("promise 7: BAD_ARG if d is not 0 or 1")) {
            for (int d : Edges.outside(0, 1)) {
                x.refused(BAD_ARG, "dump", d);
            }
        }
    }

    private static void dumpOfAnEmptyHeap() {
        for (int d = 0; d < 2; d++) {
            Run x = starts.row("promise 7: a dump of a heap with none alive", 24);
            x.due(24, "dump", d);
            x.due(0, "root", 0, -1);
            x.due(0, "dump", d);
            x.due(0, "alive", 1 + d);
            x.due(0, "bytes", 1 + d, -1);
            x.due(NONE, "heaviest", 1 + d);
            starts.none("promise 7: a dump of a new heap").refused(0, "dump", d);
        }
    }

    private static void dumpOfAFullHeap() {
        for (int d = 0; d < 2; d++) {
            Run x = starts.row("promise 7: a dump of 24 alive objects", 24);
            for (int f = 1; f < 4; f++) {
                x.call("field", 23, f, 23 - f);
            }
            x.due(24, "dump", d);
            x.due(24, "alive", 1 + d);
            x.due(300, "bytes", 1 + d, -1);
            for (int o = 0; o < 24; o++) {
                x.due(o + 1, "depth", 1 + d, o);
            }
            x.due(4, "greatestRing", 1 + d);
            x.due(2, "holders", 1 + d, 20);
        }
    }

    private static void dumpAnswersTheAlive() {
        for (int d = 0; d < 2; d++) {
            Run x = starts.few("promise 7: Otherwise the number of its alive objects");
            x.due(3, "dump", d);
            x.due(3, "alive", 1 + d);
            x.due(3, "alive", 0);
            x.due(5, "objects");
            x.due(NONE, "depth", 1 + d, 0);
            x.due(NONE, "depth", 1 + d, 5);
        }
    }

    private static void dumpLeavesTheHeap() {
        for (int d = 0; d < 2; d++) {
            Run x = starts.few("promise 7: The heap is copied, and stays as it is");
            x.due(3, "dump", d);
            x.refused(3, "dump", d);
            x.due(5, "objects");
            x.due(99 + 15, "garbage");
            x.due(1, "leaked");
            x.due(5, "field", 5, 0, 5);
            x.due(1, "field", 7, 0, 1);
            x.due(7, "root", 0, 7);
            x.due(-1, "root", 1, -1);
            x.due(2, "root", 2, 2);
            x.due(-1, "root", 3, -1);
        }
    }

    private static void dumpTakesThePlaceOfTheOneBefore() {
        for (int d = 0; d < 2; d++) {
            Run x = starts.row("promise 7: The heap is copied to dump d, over what was there", 24);
            x.call("root", 3, 23);
            x.call("field", 0, 3, 20);
            x.due(24, "dump", d);
            x.call("root", 3, -1);
            x.call("field", 0, 3, -1);
            x.call("field", 2, 0, -1);
            x.due(3, "dump", d);
            x.due(3, "alive", 1 + d);
            x.due(6, "bytes", 1 + d, -1);
            x.due(NONE, "depth", 1 + d, 3);
            x.due(NONE, "depth", 1 + d, 20);
            x.due(NONE, "depth", 1 + d, 23);
        }
    }

    private static void dumpLeavesTheOtherOne() {
        for (int d = 0; d < 2; d++) {
            Run x = starts.row("promise 7: to dump d, not to the other one", 24);
            x.due(24, "dump", 1 - d);
            x.call("field", 0, 0, -1);
            x.due(1, "dump", d);
            x.due(1, "alive", 1 + d);
            x.due(24, "alive", 2 - d);
            x.due(300, "bytes", 2 - d, -1);
            x.due(24, "depth", 2 - d, 23);
        }
    }
}
