/**
 * A heap of at most 24 objects, and two dumps of it. A set of objects is an int
 * whose bit o stands for object o. A place is 0 for the heap, 1 and 2 for the dumps.
 */
public final class HeapProfiler {
    public static final int BAD_ARG = -1;
    public static final int FULL = -2;
    public static final int NONE = -3;

    private static final int NOTHING = -1;
    private static final int HEAP = 0;
    private static final int FIRST_DUMP = 1;
    private static final int SECOND_DUMP = 2;
    private static final int PLACES = 3;
    private static final int OBJECTS = 24;
    private static final int FIELDS = 4;
    private static final int ROOTS = 4;
    private static final int KINDS = 4;
    private static final int ALL_KINDS = -1;
    private static final int GREATEST_SIZE = 99;
    private static final int ALL_OBJECTS = PLACES * OBJECTS;
    private static final int ALL_FIELDS = ALL_OBJECTS * FIELDS;
    private static final int ALL_ROOTS = PLACES * ROOTS;

    private final int[] presentIn = new int[PLACES];
    private final int[] kindOf = new int[ALL_OBJECTS];
    private final int[] sizeOf = new int[ALL_OBJECTS];
    // Only the fields of objects that are there mean anything; make sets them.
    private final int[] fieldOf = new int[ALL_FIELDS];
    private final int[] rootOf = new int[ALL_ROOTS];

    public HeapProfiler() {
        for (int i = 0; i < ALL_ROOTS; i++) {
            rootOf[i] = NOTHING;
        }
    }

    public int make(int r, int kind, int size) {
        if (!isRoot(r) || !isKind(kind) || size < 1 || size > GREATEST_SIZE) {
            return BAD_ARG;
        }
        int o = least(~presentIn[HEAP]);
        if (o == NOTHING) {
            return FULL;
        }
        presentIn[HEAP] |= 1 << o;
        kindOf[o] = kind;
        sizeOf[o] = size;
        for (int f = 0; f < FIELDS; f++) {
            fieldOf[o * FIELDS + f] = NOTHING;
        }
        rootOf[r] = o;
        return o;
    }

    public int field(int o, int f, int p) {
        if (f < 0 || f >= FIELDS) {
            return BAD_ARG;
        }
        if (!contains(presentIn[HEAP], o) || !canBeReferredTo(p)) {
            return NONE;
        }
        int before = fieldOf[o * FIELDS + f];
        fieldOf[o * FIELDS + f] = p;
        return before;
    }

    public int root(int r, int p) {
        if (!isRoot(r)) {
            return BAD_ARG;
        }
        if (!canBeReferredTo(p)) {
            return NONE;
        }
        int before = rootOf[r];
        rootOf[r] = p;
        return before;
    }

    public int collect() {
        int gone = presentIn[HEAP] & ~aliveIn(HEAP);
        presentIn[HEAP] &= ~gone;
        return count(gone);
    }

    public int sweep() {
        int gone = presentIn[HEAP] & ~leftBySweep();
        presentIn[HEAP] &= ~gone;
        return count(gone);
    }

    public int dump(int d) {
        if (d < 0 || d > 1) {
            return BAD_ARG;
        }
        int place = FIRST_DUMP + d;
        int alive = aliveIn(HEAP);
        presentIn[place] = alive;
        for (int o = 0; o < OBJECTS; o++) {
            kindOf[place * OBJECTS + o] = kindOf[o];
            sizeOf[place * OBJECTS + o] = sizeOf[o];
        }
        for (int i = 0; i < OBJECTS * FIELDS; i++) {
            fieldOf[place * OBJECTS * FIELDS + i] = fieldOf[i];
        }
        for (int r = 0; r < ROOTS; r++) {
            rootOf[place * ROOTS + r] = rootOf[r];
        }
        return count(alive);
    }

    public int objects() {
        return count(presentIn[HEAP]);
    }

    public int garbage() {
        int dead = presentIn[HEAP] & ~aliveIn(HEAP);
        return sumOfSizes(HEAP, dead);
    }

    public int leaked() {
        int deadButLeft = leftBySweep() & ~aliveIn(HEAP);
        return count(deadButLeft);
    }

    public int alive(int w) {
        if (!isPlace(w)) {
            return BAD_ARG;
        }
        int alive = aliveIn(w);
        return count(alive);
    }

    public int bytes(int w, int kind) {
        if (!isPlace(w) || (kind != ALL_KINDS && !isKind(kind))) {
            return BAD_ARG;
        }
        int counted = aliveIn(w);
        if (kind != ALL_KINDS) {
            counted &= ofKind(w, kind);
        }
        return sumOfSizes(w, counted);
    }

    public int dominator(int w, int o) {
        if (!isPlace(w)) {
            return BAD_ARG;
        }
        if (!isAlive(w, o)) {
            return NONE;
        }
        int dominators = dominatorsOf(w, o);
        for (int a = 0; a < OBJECTS; a++) {
            if (contains(dominators, a)) {
                // The dominators of o dominate one another in a row; the last one dominates none of them.
                int lost = lostWithout(w, 1 << a);
                if ((lost & dominators) == 1 << a) {
                    return a;
                }
            }
        }
        return NOTHING;
    }

    public int retained(int w, int o) {
        if (!isPlace(w)) {
            return BAD_ARG;
        }
        if (!isAlive(w, o)) {
            return 0;
        }
        int lost = lostWithout(w, 1 << o);
        return sumOfSizes(w, lost);
    }

    public int retainedByKind(int w, int kind) {
        if (!isPlace(w) || !isKind(kind)) {
            return BAD_ARG;
        }
        int barred = ofKind(w, kind);
        int lost = lostWithout(w, barred);
        return sumOfSizes(w, lost);
    }

    public int heaviest(int w) {
        if (!isPlace(w)) {
            return BAD_ARG;
        }
        int alive = aliveIn(w);
        int heaviest = NONE;
        int greatest = 0;
        for (int o = 0; o < OBJECTS; o++) {
            if (contains(alive, o)) {
                int lost = lostWithout(w, 1 << o);
                int sum = sumOfSizes(w, lost);
                if (sum > greatest) {
                    greatest = sum;
                    heaviest = o;
                }
            }
        }
        return heaviest;
    }

    public int depth(int w, int o) {
        if (!isPlace(w)) {
            return BAD_ARG;
        }
        return leastReferences(w, o);
    }

    public int way(int w, int o, int i) {
        if (!isPlace(w)) {
            return BAD_ARG;
        }
        int length = leastReferences(w, o);
        if (i < 0 || i >= length) {
            return NONE;
        }
        int next = referredToByRoots(w);
        int at = NOTHING;
        for (int step = 0; step <= i && step < OBJECTS; step++) {
            int leading = comingTo(w, o, length - 1 - step);
            at = least(next & leading);
            next = referredToBy(w, 1 << at);
        }
        return at;
    }

    public int holders(int w, int o) {
        if (!isPlace(w)) {
            return BAD_ARG;
        }
        int alive = aliveIn(w);
        if (!contains(alive, o)) {
            return NONE;
        }
        // An object is held by another one only, so its own fields don't count.
        int others = referringTo(w, 1 << o) & alive & ~(1 << o);
        return count(others);
    }

    public int rings(int w) {
        if (!isPlace(w)) {
            return BAD_ARG;
        }
        int alive = aliveIn(w);
        int rings = 0;
        for (int o = 0; o < OBJECTS; o++) {
            if (contains(alive, o)) {
                int ring = ringOf(w, o);
                // Each ring is counted once, at its least object.
                if (least(ring) == o) {
                    rings++;
                }
            }
        }
        return rings;
    }

    public int greatestRing(int w) {
        if (!isPlace(w)) {
            return BAD_ARG;
        }
        int alive = aliveIn(w);
        int greatest = 0;
        for (int o = 0; o < OBJECTS; o++) {
            if (contains(alive, o)) {
                int ring = ringOf(w, o);
                int members = count(ring);
                if (members > greatest) {
                    greatest = members;
                }
            }
        }
        return greatest;
    }

    public int fresh() {
        int added = aliveIn(SECOND_DUMP) & ~aliveIn(FIRST_DUMP);
        return count(added);
    }

    public int grown() {
        int grown = 0;
        int greatest = 0;
        for (int kind = 0; kind < KINDS; kind++) {
            int more = bytes(SECOND_DUMP, kind) - bytes(FIRST_DUMP, kind);
            // Every kind may have shrunk, so the first one counts whatever its growth is.
            if (kind == 0 || more > greatest) {
                greatest = more;
                grown = kind;
            }
        }
        return grown;
    }

    private static boolean isPlace(int w) {
        return w >= 0 && w < PLACES;
    }

    private static boolean isRoot(int r) {
        return r >= 0 && r < ROOTS;
    }

    private static boolean isKind(int kind) {
        return kind >= 0 && kind < KINDS;
    }

    private static boolean contains(int set, int o) {
        return o >= 0 && o < OBJECTS && (set >> o & 1) == 1;
    }

    private static int count(int set) {
        int members = 0;
        for (int o = 0; o < OBJECTS; o++) {
            members += set >> o & 1;
        }
        return members;
    }

    private static int least(int set) {
        for (int o = 0; o < OBJECTS; o++) {
            if (contains(set, o)) {
                return o;
            }
        }
        return NOTHING;
    }

    private boolean canBeReferredTo(int p) {
        return p == NOTHING || contains(presentIn[HEAP], p);
    }

    private boolean isAlive(int place, int o) {
        int alive = aliveIn(place);
        return contains(alive, o);
    }

    private int aliveIn(int place) {
        int start = referredToByRoots(place);
        return spread(place, start, 0);
    }

    /** The alive objects that would not be alive if all references to the barred ones referred to none. */
    private int lostWithout(int place, int barred) {
        int start = referredToByRoots(place);
        return spread(place, start, 0) & ~spread(place, start, barred);
    }

    /** The objects of start and all that they come to, barred ones neither met nor passed. */
    private int spread(int place, int start, int barred) {
        int reached = start & ~barred;
        // Every round before the last one adds an object, so as many rounds as objects are enough.
        for (int round = 0; round < OBJECTS; round++) {
            int further = reached | (referredToBy(place, reached) & ~barred);
            if (further == reached) {
                break;
            }
            reached = further;
        }
        return reached;
    }

    private int referredToByRoots(int place) {
        int set = 0;
        for (int r = 0; r < ROOTS; r++) {
            int p = rootOf[place * ROOTS + r];
            if (p != NOTHING) {
                set |= 1 << p;
            }
        }
        return set;
    }

    private int referredToBy(int place, int from) {
        int set = 0;
        for (int o = 0; o < OBJECTS; o++) {
            for (int f = 0; f < FIELDS; f++) {
                int p = fieldOf[(place * OBJECTS + o) * FIELDS + f];
                if (p != NOTHING && contains(from, o)) {
                    set |= 1 << p;
                }
            }
        }
        return set;
    }

    /** The objects, alive or not, with a field that refers to an object of the set. */
    private int referringTo(int place, int set) {
        int referring = 0;
        for (int o = 0; o < OBJECTS; o++) {
            for (int f = 0; f < FIELDS; f++) {
                int p = fieldOf[(place * OBJECTS + o) * FIELDS + f];
                if (contains(set, p) && contains(presentIn[place], o)) {
                    referring |= 1 << o;
                }
            }
        }
        return referring;
    }

    private int leftBySweep() {
        int rooted = referredToByRoots(HEAP);
        int left = presentIn[HEAP];
        // A round that takes no object away is followed by none that does, so as many rounds as objects are enough.
        for (int round = 0; round < OBJECTS; round++) {
            left &= rooted | referredToBy(HEAP, left);
        }
        return left;
    }

    private int ofKind(int place, int kind) {
        int set = 0;
        for (int o = 0; o < OBJECTS; o++) {
            if (contains(presentIn[place], o) && kindOf[place * OBJECTS + o] == kind) {
                set |= 1 << o;
            }
        }
        return set;
    }

    private int sumOfSizes(int place, int set) {
        int sum = 0;
        for (int o = 0; o < OBJECTS; o++) {
            if (contains(set, o)) {
                sum += sizeOf[place * OBJECTS + o];
            }
        }
        return sum;
    }

    private int dominatorsOf(int place, int o) {
        int dominators = 0;
        for (int a = 0; a < OBJECTS; a++) {
            if (a != o) {
                int lost = lostWithout(place, 1 << a);
                if (contains(lost, o)) {
                    dominators |= 1 << a;
                }
            }
        }
        return dominators;
    }

    private int leastReferences(int place, int o) {
        int reached = referredToByRoots(place);
        for (int references = 1; references <= OBJECTS; references++) {
            if (contains(reached, o)) {
                return references;
            }
            reached |= referredToBy(place, reached);
        }
        return NONE;
    }

    /** The objects, alive or not, that come to object o by exactly this number of references. */
    private int comingTo(int place, int o, int references) {
        int set = 1 << o;
        for (int i = 0; i < references && i < OBJECTS; i++) {
            set = referringTo(place, set);
        }
        return set;
    }

    /** The ring that object o is in, the empty set if it is in none. */
    private int ringOf(int place, int o) {
        int after = allAfter(place, o);
        int ring = 0;
        for (int p = 0; p < OBJECTS; p++) {
            if (contains(after, p)) {
                int afterThat = allAfter(place, p);
                if (contains(afterThat, o)) {
                    ring |= 1 << p;
                }
            }
        }
        return ring;
    }

    /** All that object o comes to by one reference or more. */
    private int allAfter(int place, int o) {
        int start = referredToBy(place, 1 << o);
        return spread(place, start, 0);
    }
}
