/** Each promise of the document by itself: ordinary inputs, the edges that it names, and wrong inputs. */
public final class PromisesTest {
    private static final int BAD_ARG = -1;
    private static final int FULL = -2;
    private static final int NONE = -3;
    private static final int[] NOT_AN_OBJECT = {-2, -1, 24, 25, 32, 99, Integer.MIN_VALUE, Integer.MAX_VALUE};
    private static final int[] NOT_0_TO_3 = {-2, -1, 4, 5, 32, Integer.MIN_VALUE, Integer.MAX_VALUE};
    private static final int[] NOT_A_PLACE = {-2, -1, 3, 4, 32, Integer.MIN_VALUE, Integer.MAX_VALUE};

    private static final Checks checks = new Checks("PromisesTest");

    public static void main(String[] args) {
        newObject();
        make();
        makeWrong();
        makeFull();
        field();
        fieldWrong();
        root();
        rootWrong();
        collect();
        sweep();
        sweepLeaves();
        dump();
        dumpIsACopy();
        objects();
        garbage();
        leaked();
        alive();
        bytes();
        dominator();
        dominatorOfManyRoots();
        retained();
        retainedByKind();
        heaviest();
        depth();
        way();
        wayAmongMany();
        holders();
        rings();
        greatestRing();
        fresh();
        grown();
        wrongPlaces();
        refusedCallsChangeNothing();
        checks.end();
    }

    /** A heap with objects 0 to n - 1, of kinds 0 to 3 in turn and of sizes 1 to n, that nothing refers to. */
    private static HeapProfiler loose(int n) {
        HeapProfiler x = new HeapProfiler();
        for (int o = 0; o < n; o++) {
            x.make(0, o % 4, o + 1);
        }
        x.root(0, -1);
        return x;
    }

    private static void newObject() {
        checks.about("promise 1");
        HeapProfiler x = new HeapProfiler();
        checks.due("objects()", x.objects(), 0);
        for (int w = 0; w < 3; w++) {
            checks.due("alive(" + w + ")", x.alive(w), 0);
            checks.due("bytes(" + w + ", -1)", x.bytes(w, -1), 0);
            checks.due("heaviest(" + w + ")", x.heaviest(w), NONE);
            checks.due("rings(" + w + ")", x.rings(w), 0);
        }
        for (int r = 0; r < 4; r++) {
            checks.due("root(" + r + ", -1)", x.root(r, -1), -1);
        }
        checks.due("garbage()", x.garbage(), 0);
        checks.due("leaked()", x.leaked(), 0);
        x.make(0, 0, 1);
        checks.due("objects() of another new one", new HeapProfiler().objects(), 0);
    }

    private static void make() {
        checks.about("promise 2");
        HeapProfiler x = new HeapProfiler();
        checks.due("make(3, 2, 99)", x.make(3, 2, 99), 0);
        checks.due("bytes(0, 2)", x.bytes(0, 2), 99);
        checks.due("make(0, 0, 1)", x.make(0, 0, 1), 1);
        checks.due("make(3, 3, 5)", x.make(3, 3, 5), 2);
        checks.due("root(3, 2)", x.root(3, 2), 2);
        checks.due("root(0, 1)", x.root(0, 1), 1);
        checks.due("root(1, -1)", x.root(1, -1), -1);
        checks.due("alive(0)", x.alive(0), 2);
        checks.due("field(1, 3, 2)", x.field(1, 3, 2), -1);
        checks.due("root(0, 2)", x.root(0, 2), 1);
        checks.due("collect()", x.collect(), 2);
        checks.due("the least number that is free", x.make(1, 1, 7), 0);
        checks.due("the next one", x.make(2, 1, 7), 1);
        for (int f = 0; f < 4; f++) {
            checks.due("a field of the new object " + f, x.field(1, f, -1), -1);
        }
        checks.due("the one after those that are there", x.make(2, 1, 7), 3);
    }

    private static void makeWrong() {
        checks.about("promise 2, wrong inputs");
        HeapProfiler x = new HeapProfiler();
        for (int wrong : NOT_0_TO_3) {
            checks.due("make(" + wrong + ", 0, 1)", x.make(wrong, 0, 1), BAD_ARG);
            checks.due("make(0, " + wrong + ", 1)", x.make(0, wrong, 1), BAD_ARG);
        }
        for (int size : new int[] {0, -1, 100, Integer.MIN_VALUE, Integer.MAX_VALUE}) {
            checks.due("make(0, 0, " + size + ")", x.make(0, 0, size), BAD_ARG);
        }
        checks.due("objects()", x.objects(), 0);
        checks.due("make(3, 3, 1)", x.make(3, 3, 1), 0);
    }

    private static void makeFull() {
        checks.about("promise 2, 24 objects");
        HeapProfiler x = loose(24);
        checks.due("make(0, 0, 1)", x.make(0, 0, 1), FULL);
        checks.due("make(4, 0, 1)", x.make(4, 0, 1), BAD_ARG);
        checks.due("make(0, 4, 1)", x.make(0, 4, 1), BAD_ARG);
        checks.due("make(0, 0, 100)", x.make(0, 0, 100), BAD_ARG);
        checks.due("root(0, 23)", x.root(0, 23), -1);
        checks.due("make(0, 0, 1)", x.make(0, 0, 1), FULL);
        checks.due("root(0, 5)", x.root(0, 5), 23);
        checks.due("sweep()", x.sweep(), 23);
        checks.due("make(1, 0, 1)", x.make(1, 0, 1), 0);
    }

    private static void field() {
        checks.about("promise 3");
        HeapProfiler x = loose(24);
        for (int f = 0; f < 4; f++) {
            checks.due("field(23, f, 22)", x.field(23, f, 22), -1);
            checks.due("field(22, f, 23)", x.field(22, f, 23), -1);
        }
        checks.due("field(23, 0, 23)", x.field(23, 0, 23), 22);
        checks.due("field(23, 0, 0)", x.field(23, 0, 0), 23);
        checks.due("field(23, 0, -1)", x.field(23, 0, -1), 0);
        checks.due("field(23, 0, -1)", x.field(23, 0, -1), -1);
        checks.due("field(23, 1, 21)", x.field(23, 1, 21), 22);
        checks.due("field(23, 2, 21)", x.field(23, 2, 21), 22);
        checks.due("field(23, 1, -1)", x.field(23, 1, -1), 21);
        checks.due("field(22, 3, -1)", x.field(22, 3, -1), 23);
    }

    private static void fieldWrong() {
        checks.about("promise 3, wrong inputs");
        HeapProfiler x = loose(2);
        x.field(0, 0, 1);
        for (int wrong : NOT_0_TO_3) {
            checks.due("field(0, " + wrong + ", 1)", x.field(0, wrong, 1), BAD_ARG);
            checks.due("field(9, " + wrong + ", 9)", x.field(9, wrong, 9), BAD_ARG);
        }
        for (int wrong : NOT_AN_OBJECT) {
            checks.due("field(" + wrong + ", 0, 1)", x.field(wrong, 0, 1), NONE);
            if (wrong != -1) {
                checks.due("field(0, 0, " + wrong + ")", x.field(0, 0, wrong), NONE);
            }
        }
        checks.due("field(2, 0, -1)", x.field(2, 0, -1), NONE);
        checks.due("field(0, 0, 2)", x.field(0, 0, 2), NONE);
        checks.due("field(0, 0, -1)", x.field(0, 0, -1), 1);
        x.collect();
        checks.due("field(0, 0, -1) of an object that went", x.field(0, 0, -1), NONE);
    }

    private static void root() {
        checks.about("promise 4");
        HeapProfiler x = loose(24);
        checks.due("root(0, 23)", x.root(0, 23), -1);
        checks.due("root(3, 0)", x.root(3, 0), -1);
        checks.due("root(1, 0)", x.root(1, 0), -1);
        checks.due("alive(0)", x.alive(0), 2);
        checks.due("root(3, 7)", x.root(3, 7), 0);
        checks.due("root(1, -1)", x.root(1, -1), 0);
        checks.due("root(1, -1)", x.root(1, -1), -1);
        checks.due("root(0, -1)", x.root(0, -1), 23);
        checks.due("alive(0)", x.alive(0), 1);
        checks.due("depth(0, 7)", x.depth(0, 7), 1);
    }

    private static void rootWrong() {
        checks.about("promise 4, wrong inputs");
        HeapProfiler x = loose(2);
        x.root(0, 1);
        for (int wrong : NOT_0_TO_3) {
            checks.due("root(" + wrong + ", 0)", x.root(wrong, 0), BAD_ARG);
            checks.due("root(" + wrong + ", 9)", x.root(wrong, 9), BAD_ARG);
        }
        for (int wrong : NOT_AN_OBJECT) {
            if (wrong != -1) {
                checks.due("root(0, " + wrong + ")", x.root(0, wrong), NONE);
            }
        }
        checks.due("root(0, 2)", x.root(0, 2), NONE);
        checks.due("collect()", x.collect(), 1);
        checks.due("root(0, 0) to an object that went", x.root(0, 0), NONE);
        checks.due("root(0, 1)", x.root(0, 1), 1);
    }

    private static void collect() {
        checks.about("promise 5");
        HeapProfiler x = loose(8);
        x.root(2, 3);
        x.field(3, 3, 4);
        x.field(4, 0, 3);
        x.field(5, 0, 6);
        x.field(6, 0, 5);
        x.field(7, 0, 3);
        x.field(0, 2, 0);
        checks.due("collect()", x.collect(), 6);
        checks.due("objects()", x.objects(), 2);
        checks.due("collect() again", x.collect(), 0);
        checks.due("field(3, 3, 4)", x.field(3, 3, 4), 4);
        checks.due("root(2, -1)", x.root(2, -1), 3);
        checks.due("collect()", x.collect(), 2);
        checks.due("objects()", x.objects(), 0);
    }

    private static void sweep() {
        checks.about("promise 6");
        HeapProfiler x = loose(24);
        for (int o = 0; o < 23; o++) {
            x.field(o, o % 4, o + 1);
        }
        x.root(1, 22);
        checks.due("sweep() of a row", x.sweep(), 22);
        checks.due("objects()", x.objects(), 2);
        x.root(1, 23);
        checks.due("sweep()", x.sweep(), 1);
        x.root(1, -1);
        checks.due("sweep()", x.sweep(), 1);
        checks.due("sweep()", x.sweep(), 0);
        HeapProfiler y = loose(24);
        for (int o = 23; o > 0; o--) {
            y.field(o, 0, o - 1);
        }
        checks.due("sweep() of a row of 24, the last first", y.sweep(), 24);
        checks.due("objects()", y.objects(), 0);
    }

    private static void sweepLeaves() {
        checks.about("promise 6, rings");
        HeapProfiler x = loose(7);
        x.field(0, 0, 1);
        x.field(1, 0, 0);
        x.field(1, 1, 2);
        x.field(3, 0, 3);
        x.field(4, 0, 0);
        x.field(4, 1, 5);
        x.field(4, 2, 5);
        checks.due("sweep()", x.sweep(), 3);
        checks.due("objects()", x.objects(), 4);
        x.field(0, 0, -1);
        checks.due("sweep() of a broken ring", x.sweep(), 3);
        checks.due("field(3, 0, 3)", x.field(3, 0, 3), 3);
    }

    private static void dump() {
        checks.about("promise 7");
        HeapProfiler x = loose(5);
        x.root(0, 1);
        x.field(1, 2, 3);
        for (int wrong : new int[] {-1, 2, 3, Integer.MIN_VALUE, Integer.MAX_VALUE}) {
            checks.due("dump(" + wrong + ")", x.dump(wrong), BAD_ARG);
        }
        checks.due("dump(1)", x.dump(1), 2);
        checks.due("alive(1)", x.alive(1), 0);
        checks.due("alive(2)", x.alive(2), 2);
        checks.due("bytes(2, 1)", x.bytes(2, 1), 2);
        checks.due("bytes(2, 3)", x.bytes(2, 3), 4);
        checks.due("depth(2, 3)", x.depth(2, 3), 2);
        checks.due("depth(2, 0)", x.depth(2, 0), NONE);
        checks.due("objects()", x.objects(), 5);
        checks.due("dump(0)", x.dump(0), 2);
        checks.due("alive(1)", x.alive(1), 2);
    }

    private static void dumpIsACopy() {
        checks.about("promise 7, a copy");
        HeapProfiler x = loose(3);
        x.root(3, 0);
        x.field(0, 0, 1);
        x.field(1, 3, 2);
        x.dump(0);
        x.root(3, -1);
        x.root(2, 2);
        x.collect();
        x.make(0, 3, 50);
        checks.due("alive(1)", x.alive(1), 3);
        checks.due("bytes(1, 0)", x.bytes(1, 0), 1);
        checks.due("dominator(1, 2)", x.dominator(1, 2), 1);
        checks.due("dump(0) over the first", x.dump(0), 2);
        checks.due("dominator(1, 2)", x.dominator(1, 2), -1);
        checks.due("depth(1, 1)", x.depth(1, 1), NONE);
        checks.due("bytes(1, 3)", x.bytes(1, 3), 50);
        x.root(0, -1);
        x.root(2, -1);
        checks.due("dump(0) with none alive", x.dump(0), 0);
        checks.due("alive(1)", x.alive(1), 0);
        checks.due("bytes(1, -1)", x.bytes(1, -1), 0);
    }

    private static void objects() {
        checks.about("promise 8");
        HeapProfiler x = loose(3);
        checks.due("objects()", x.objects(), 3);
        x.make(0, 0, 1);
        checks.due("objects()", x.objects(), 4);
        x.collect();
        checks.due("objects()", x.objects(), 1);
        checks.due("objects() of a full heap", loose(24).objects(), 24);
    }

    private static void garbage() {
        checks.about("promise 9");
        HeapProfiler x = loose(4);
        checks.due("garbage()", x.garbage(), 10);
        x.field(0, 0, 1);
        x.field(2, 0, 2);
        checks.due("garbage()", x.garbage(), 10);
        x.root(0, 0);
        checks.due("garbage()", x.garbage(), 7);
        x.collect();
        checks.due("garbage()", x.garbage(), 0);
    }

    private static void leaked() {
        checks.about("promise 10");
        HeapProfiler x = loose(8);
        checks.due("leaked()", x.leaked(), 0);
        x.field(0, 0, 1);
        x.field(1, 0, 0);
        x.field(1, 1, 2);
        x.field(3, 0, 3);
        x.field(4, 0, 3);
        checks.due("leaked()", x.leaked(), 4);
        checks.due("objects()", x.objects(), 8);
        x.field(5, 0, 6);
        x.field(6, 0, 5);
        x.root(0, 5);
        checks.due("leaked() without the alive ring", x.leaked(), 4);
        x.root(1, 1);
        checks.due("leaked()", x.leaked(), 1);
        checks.due("sweep()", x.sweep(), 2);
        checks.due("leaked()", x.leaked(), 1);
        x.collect();
        checks.due("leaked()", x.leaked(), 0);
    }

    private static void alive() {
        checks.about("promise 11");
        HeapProfiler x = loose(24);
        for (int o = 0; o < 23; o++) {
            x.field(23 - o, 3, 22 - o);
        }
        checks.due("alive(0)", x.alive(0), 0);
        x.root(0, 12);
        checks.due("alive(0)", x.alive(0), 13);
        x.root(3, 23);
        checks.due("alive(0)", x.alive(0), 24);
        x.dump(1);
        x.root(3, -1);
        checks.due("alive(2)", x.alive(2), 24);
        checks.due("alive(0)", x.alive(0), 13);
        checks.due("alive(1)", x.alive(1), 0);
    }

    private static void bytes() {
        checks.about("promise 12");
        HeapProfiler x = loose(6);
        x.root(0, 0);
        x.field(0, 0, 4);
        x.field(4, 0, 3);
        checks.due("bytes(0, 0)", x.bytes(0, 0), 6);
        checks.due("bytes(0, 1)", x.bytes(0, 1), 0);
        checks.due("bytes(0, 3)", x.bytes(0, 3), 4);
        checks.due("bytes(0, -1)", x.bytes(0, -1), 10);
        for (int kind : new int[] {-2, 4, 5, Integer.MIN_VALUE, Integer.MAX_VALUE}) {
            checks.due("bytes(0, " + kind + ")", x.bytes(0, kind), BAD_ARG);
        }
        x.dump(0);
        x.root(0, 4);
        checks.due("bytes(0, 0)", x.bytes(0, 0), 5);
        checks.due("bytes(1, 0)", x.bytes(1, 0), 6);
        checks.due("bytes(2, 0)", x.bytes(2, 0), 0);
    }

    private static void dominator() {
        checks.about("promise 13");
        HeapProfiler x = loose(8);
        x.root(0, 7);
        x.field(7, 0, 5);
        x.field(7, 1, 6);
        x.field(5, 0, 2);
        x.field(6, 0, 2);
        x.field(2, 0, 1);
        x.field(1, 0, 7);
        x.field(1, 1, 1);
        x.field(0, 0, 6);
        checks.due("dominator(0, 7)", x.dominator(0, 7), -1);
        checks.due("dominator(0, 5)", x.dominator(0, 5), 7);
        checks.due("dominator(0, 6)", x.dominator(0, 6), 7);
        checks.due("dominator(0, 2)", x.dominator(0, 2), 7);
        checks.due("dominator(0, 1)", x.dominator(0, 1), 2);
        checks.due("dominator(0, 0), not alive", x.dominator(0, 0), NONE);
        for (int wrong : NOT_AN_OBJECT) {
            checks.due("dominator(0, " + wrong + ")", x.dominator(0, wrong), NONE);
        }
        checks.due("dominator(1, 7)", x.dominator(1, 7), NONE);
        x.dump(0);
        x.field(6, 0, -1);
        checks.due("dominator(0, 2)", x.dominator(0, 2), 5);
        checks.due("dominator(1, 2)", x.dominator(1, 2), 7);
    }

    private static void dominatorOfManyRoots() {
        checks.about("promise 13, many roots");
        HeapProfiler x = loose(4);
        x.root(0, 0);
        x.root(1, 1);
        x.field(0, 0, 2);
        x.field(1, 0, 2);
        x.field(2, 0, 3);
        checks.due("dominator(0, 2)", x.dominator(0, 2), -1);
        checks.due("dominator(0, 3)", x.dominator(0, 3), 2);
        x.root(1, 0);
        checks.due("dominator(0, 2), two roots to one", x.dominator(0, 2), 0);
        x.root(2, 3);
        checks.due("dominator(0, 3), a root to it", x.dominator(0, 3), -1);
    }

    private static void retained() {
        checks.about("promise 14");
        HeapProfiler x = loose(6);
        x.root(0, 0);
        x.field(0, 0, 1);
        x.field(0, 1, 2);
        x.field(1, 0, 3);
        x.field(2, 0, 3);
        x.field(3, 0, 4);
        x.field(4, 0, 0);
        x.field(5, 0, 4);
        checks.due("retained(0, 0)", x.retained(0, 0), 15);
        checks.due("retained(0, 1)", x.retained(0, 1), 2);
        checks.due("retained(0, 3)", x.retained(0, 3), 9);
        checks.due("retained(0, 5), not alive", x.retained(0, 5), 0);
        x.dump(1);
        x.root(1, 5);
        checks.due("retained(0, 0), with another way to it", x.retained(0, 0), 10);
        checks.due("retained(0, 3)", x.retained(0, 3), 4);
        checks.due("retained(0, 5)", x.retained(0, 5), 6);
        checks.due("retained(2, 3)", x.retained(2, 3), 9);
        checks.due("retained(1, 3)", x.retained(1, 3), 0);
        for (int wrong : NOT_AN_OBJECT) {
            checks.due("retained(0, " + wrong + ")", x.retained(0, wrong), 0);
        }
    }

    private static void retainedByKind() {
        checks.about("promise 15");
        HeapProfiler x = loose(9);
        x.root(0, 0);
        x.field(0, 0, 1);
        x.field(0, 1, 5);
        x.field(1, 0, 2);
        x.field(5, 0, 2);
        x.field(2, 0, 3);
        checks.due("both ways barred", x.retainedByKind(0, 1), 15);
        checks.due("retainedByKind(0, 0)", x.retainedByKind(0, 0), 16);
        checks.due("retainedByKind(0, 2)", x.retainedByKind(0, 2), 7);
        checks.due("retainedByKind(0, 3)", x.retainedByKind(0, 3), 4);
        x.dump(0);
        x.field(0, 3, 2);
        checks.due("with a way around", x.retainedByKind(0, 1), 8);
        checks.due("retainedByKind(1, 1)", x.retainedByKind(1, 1), 15);
        checks.due("retainedByKind(2, 1)", x.retainedByKind(2, 1), 0);
        for (int wrong : NOT_0_TO_3) {
            checks.due("retainedByKind(0, " + wrong + ")", x.retainedByKind(0, wrong), BAD_ARG);
        }
        x.root(0, -1);
        checks.due("with none alive", x.retainedByKind(0, 1), 0);
    }

    private static void heaviest() {
        checks.about("promise 16");
        HeapProfiler x = new HeapProfiler();
        x.make(0, 0, 5);
        x.make(1, 0, 5);
        x.make(2, 0, 9);
        checks.due("heaviest(0)", x.heaviest(0), 2);
        x.root(2, -1);
        checks.due("the least of several, a dead one aside", x.heaviest(0), 0);
        x.make(2, 0, 1);
        x.field(1, 1, 3);
        x.root(2, -1);
        checks.due("by what it retains", x.heaviest(0), 1);
        x.dump(1);
        x.field(0, 0, 3);
        checks.due("shared by both", x.heaviest(0), 0);
        checks.due("heaviest(2)", x.heaviest(2), 1);
        checks.due("heaviest(1)", x.heaviest(1), NONE);
        x.root(0, -1);
        x.root(1, -1);
        checks.due("with none alive", x.heaviest(0), NONE);
    }

    private static void depth() {
        checks.about("promise 17");
        HeapProfiler x = loose(24);
        x.root(3, 23);
        for (int o = 23; o > 1; o--) {
            x.field(o, 1, o - 1);
        }
        checks.due("depth(0, 23)", x.depth(0, 23), 1);
        checks.due("depth(0, 1)", x.depth(0, 1), 23);
        checks.due("depth(0, 0), not alive", x.depth(0, 0), NONE);
        x.field(1, 0, 0);
        checks.due("depth(0, 0), the greatest there is", x.depth(0, 0), 24);
        x.dump(0);
        x.field(20, 3, 2);
        checks.due("depth(0, 1), by a shorter way", x.depth(0, 1), 6);
        checks.due("depth(1, 1)", x.depth(1, 1), 23);
        checks.due("depth(2, 23)", x.depth(2, 23), NONE);
        x.root(0, 1);
        checks.due("depth(0, 0), from another root", x.depth(0, 0), 2);
        for (int wrong : NOT_AN_OBJECT) {
            checks.due("depth(0, " + wrong + ")", x.depth(0, wrong), NONE);
        }
    }

    private static void way() {
        checks.about("promise 18");
        HeapProfiler x = loose(24);
        x.root(3, 23);
        for (int o = 23; o > 0; o--) {
            x.field(o, 1, o - 1);
        }
        for (int i = 0; i < 24; i++) {
            checks.due("way(0, 0, " + i + ")", x.way(0, 0, i), 23 - i);
        }
        for (int i : new int[] {-1, 24, 25, Integer.MIN_VALUE, Integer.MAX_VALUE}) {
            checks.due("way(0, 0, " + i + ")", x.way(0, 0, i), NONE);
        }
        checks.due("way(0, 20, 3)", x.way(0, 20, 3), 20);
        checks.due("way(0, 20, 4)", x.way(0, 20, 4), NONE);
        for (int wrong : NOT_AN_OBJECT) {
            checks.due("way(0, " + wrong + ", 0)", x.way(0, wrong, 0), NONE);
        }
        x.dump(1);
        x.root(3, 1);
        checks.due("way(0, 23, 0), not alive", x.way(0, 23, 0), NONE);
        checks.due("way(0, 0, 0)", x.way(0, 0, 0), 1);
        checks.due("way(0, 0, 1)", x.way(0, 0, 1), 0);
        checks.due("way(2, 0, 1)", x.way(2, 0, 1), 22);
        checks.due("way(1, 0, 0)", x.way(1, 0, 0), NONE);
    }

    private static void wayAmongMany() {
        checks.about("promise 18, several ways");
        HeapProfiler x = loose(9);
        x.root(0, 2);
        x.root(1, 1);
        x.field(1, 0, 7);
        x.field(1, 1, 6);
        x.field(2, 0, 3);
        x.field(7, 0, 8);
        x.field(6, 0, 8);
        x.field(3, 0, 8);
        x.field(0, 0, 8);
        checks.due("the first object decides before the second", x.way(0, 8, 0), 1);
        checks.due("then the second one", x.way(0, 8, 1), 6);
        checks.due("the last is the object", x.way(0, 8, 2), 8);
        checks.due("and no more", x.way(0, 8, 3), NONE);
        x.root(2, 0);
        checks.due("the shortest way comes first", x.way(0, 8, 0), 0);
        checks.due("way(0, 8, 1)", x.way(0, 8, 1), 8);
        x.root(2, 7);
        checks.due("a shorter one of greater numbers", x.way(0, 8, 0), 7);
        x.root(3, 8);
        checks.due("a root to it", x.way(0, 8, 0), 8);
        checks.due("and no more", x.way(0, 8, 1), NONE);
    }

    private static void holders() {
        checks.about("promise 19");
        HeapProfiler x = loose(5);
        x.root(0, 0);
        x.root(1, 3);
        x.root(2, 3);
        checks.due("roots don't hold", x.holders(0, 3), 0);
        x.field(0, 0, 1);
        x.field(0, 3, 3);
        x.field(0, 1, 3);
        checks.due("one with two fields is one", x.holders(0, 3), 1);
        x.field(1, 2, 3);
        checks.due("holders(0, 3)", x.holders(0, 3), 2);
        x.field(4, 0, 3);
        checks.due("a dead one doesn't count", x.holders(0, 3), 2);
        x.field(3, 0, 3);
        checks.due("held is held by another one", x.holders(0, 3), 2);
        x.dump(0);
        x.field(1, 2, -1);
        checks.due("holders(0, 3)", x.holders(0, 3), 1);
        checks.due("holders(1, 3)", x.holders(1, 3), 2);
        checks.due("holders(2, 3)", x.holders(2, 3), NONE);
        checks.due("holders(0, 4), not alive", x.holders(0, 4), NONE);
        for (int wrong : NOT_AN_OBJECT) {
            checks.due("holders(0, " + wrong + ")", x.holders(0, wrong), NONE);
        }
    }

    private static void rings() {
        checks.about("promise 20");
        HeapProfiler x = loose(8);
        x.root(0, 5);
        checks.due("an object alone is none", x.rings(0), 0);
        x.field(5, 0, 4);
        x.field(5, 1, 3);
        x.field(4, 0, 2);
        x.field(3, 0, 2);
        checks.due("a rhomb is none", x.rings(0), 0);
        x.field(2, 0, 2);
        checks.due("unless a field of its own refers to it", x.rings(0), 1);
        x.field(2, 1, 4);
        checks.due("a greater ring takes it in", x.rings(0), 1);
        x.field(3, 1, 3);
        checks.due("two, one after the other", x.rings(0), 2);
        x.field(7, 0, 7);
        checks.due("a dead one doesn't count", x.rings(0), 2);
        x.dump(1);
        x.field(2, 2, 5);
        checks.due("all in one", x.rings(0), 1);
        checks.due("rings(2)", x.rings(2), 2);
        checks.due("rings(1)", x.rings(1), 0);
        HeapProfiler y = loose(24);
        for (int o = 0; o < 24; o++) {
            y.field(o, 0, (o + 1) % 24);
        }
        checks.due("rings(0) of a dead ring", y.rings(0), 0);
        y.root(0, 11);
        checks.due("rings(0) of a ring of 24", y.rings(0), 1);
        for (int o = 0; o < 24; o++) {
            y.field(o, 0, o);
            y.field(o, 1, o == 0 ? -1 : o - 1);
        }
        y.root(0, 23);
        checks.due("24 rings of one", y.rings(0), 24);
    }

    private static void greatestRing() {
        checks.about("promise 21");
        HeapProfiler x = loose(24);
        x.root(0, 0);
        x.field(0, 0, 1);
        checks.due("without one", x.greatestRing(0), 0);
        x.field(1, 0, 1);
        checks.due("an object alone", x.greatestRing(0), 1);
        x.field(1, 1, 2);
        x.field(2, 0, 3);
        x.field(3, 0, 2);
        checks.due("two and one", x.greatestRing(0), 2);
        x.field(3, 1, 4);
        x.field(4, 0, 3);
        checks.due("an eight of three", x.greatestRing(0), 3);
        x.dump(0);
        for (int o = 10; o < 24; o++) {
            x.field(o, 0, o == 23 ? 10 : o + 1);
        }
        checks.due("a dead one doesn't count", x.greatestRing(0), 3);
        x.root(1, 15);
        checks.due("greatestRing(0)", x.greatestRing(0), 14);
        checks.due("greatestRing(1)", x.greatestRing(1), 3);
        checks.due("greatestRing(2)", x.greatestRing(2), 0);
    }

    private static void fresh() {
        checks.about("promise 22");
        HeapProfiler x = loose(6);
        x.root(0, 0);
        x.root(1, 1);
        x.dump(0);
        checks.due("dump 1 is empty", x.fresh(), 0);
        x.root(0, 2);
        x.field(2, 0, 3);
        x.dump(1);
        checks.due("fresh()", x.fresh(), 2);
        x.root(1, -1);
        x.collect();
        x.make(1, 3, 77);
        x.root(0, -1);
        x.dump(1);
        checks.due("the number counts, not the object", x.fresh(), 0);
        x.dump(0);
        x.make(2, 0, 1);
        x.dump(1);
        checks.due("fresh()", x.fresh(), 1);
    }

    private static void grown() {
        checks.about("promise 23");
        HeapProfiler x = loose(8);
        x.root(0, 1);
        x.dump(1);
        checks.due("from an empty dump", x.grown(), 1);
        x.dump(0);
        checks.due("no kind grew: the least", x.grown(), 0);
        x.root(1, 3);
        x.root(2, 2);
        x.dump(1);
        checks.due("grown()", x.grown(), 3);
        x.field(2, 0, 0);
        x.dump(1);
        checks.due("grown()", x.grown(), 3);
        x.root(1, -1);
        x.dump(1);
        checks.due("the more of two", x.grown(), 2);
        everyKindShrank();
    }

    private static void everyKindShrank() {
        HeapProfiler x = new HeapProfiler();
        int[] sizes = {9, 4, 3, 3};
        for (int kind = 0; kind < 4; kind++) {
            x.make(kind, kind, sizes[kind]);
        }
        x.dump(0);
        checks.due("all shrank: the one that did so least", x.grown(), 2);
    }

    private static void wrongPlaces() {
        checks.about("a wrong place");
        HeapProfiler x = loose(3);
        x.root(0, 0);
        for (int w : NOT_A_PLACE) {
            checks.due("alive(" + w + ")", x.alive(w), BAD_ARG);
            checks.due("heaviest(" + w + ")", x.heaviest(w), BAD_ARG);
            checks.due("rings(" + w + ")", x.rings(w), BAD_ARG);
            checks.due("greatestRing(" + w + ")", x.greatestRing(w), BAD_ARG);
            for (int o : new int[] {0, 1, -1, 24, Integer.MIN_VALUE}) {
                checks.due("bytes(" + w + ", " + o + ")", x.bytes(w, o), BAD_ARG);
                checks.due("dominator(" + w + ", " + o + ")", x.dominator(w, o), BAD_ARG);
                checks.due("retained(" + w + ", " + o + ")", x.retained(w, o), BAD_ARG);
                checks.due("retainedByKind(" + w + ", " + o + ")", x.retainedByKind(w, o), BAD_ARG);
                checks.due("depth(" + w + ", " + o + ")", x.depth(w, o), BAD_ARG);
                checks.due("way(" + w + ", " + o + ", 0)", x.way(w, o, 0), BAD_ARG);
                checks.due("way(" + w + ", " + o + ", 99)", x.way(w, o, 99), BAD_ARG);
                checks.due("holders(" + w + ", " + o + ")", x.holders(w, o), BAD_ARG);
            }
        }
    }

    private static void refusedCallsChangeNothing() {
        checks.about("refused calls change nothing");
        HeapProfiler x = loose(24);
        x.root(0, 4);
        x.field(4, 1, 6);
        x.dump(0);
        x.make(0, 0, 1);
        x.make(0, 9, 1);
        x.field(4, 1, 24);
        x.field(4, 5, 5);
        x.field(24, 1, 5);
        x.root(0, 24);
        x.root(4, 5);
        x.dump(2);
        x.dump(-1);
        checks.due("objects()", x.objects(), 24);
        checks.due("alive(0)", x.alive(0), 2);
        checks.due("alive(1)", x.alive(1), 2);
        checks.due("alive(2)", x.alive(2), 0);
        checks.due("field(4, 1, 6)", x.field(4, 1, 6), 6);
        checks.due("root(0, 4)", x.root(0, 4), 4);
        for (int r = 1; r < 4; r++) {
            checks.due("root(" + r + ", -1)", x.root(r, -1), -1);
        }
        for (int f = 0; f < 4; f++) {
            checks.due("field(5, " + f + ", -1)", x.field(5, f, -1), -1);
        }
    }
}
