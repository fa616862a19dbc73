import java.util.ArrayDeque;
import java.util.ArrayList;
import java.util.Deque;
import java.util.HashSet;
import java.util.List;
import java.util.Map;
import java.util.Set;
import java.util.TreeMap;
import java.util.TreeSet;

/**
 * What the document asks, built from the Java library and by other means than the program:
 * sets of dominators that shrink, counts of references, a table of who comes to whom, lists of ways.
 */
final class Model {
    static final int BAD_ARG = -1;
    static final int FULL = -2;
    static final int NONE = -3;

    private static final class Thing {
        int kind;
        int size;
        int[] fields = {-1, -1, -1, -1};

        Thing copy() {
            Thing other = new Thing();
            other.kind = kind;
            other.size = size;
            other.fields = fields.clone();
            return other;
        }
    }

    private static final class Place {
        Map<Integer, Thing> things = new TreeMap<>();
        int[] roots = {-1, -1, -1, -1};

        Set<Integer> aliveBut(Set<Integer> barred) {
            Set<Integer> met = new TreeSet<>();
            Deque<Integer> open = new ArrayDeque<>();
            for (int p : roots) {
                open.push(p);
            }
            while (!open.isEmpty()) {
                int o = open.pop();
                if (o != -1 && !barred.contains(o) && met.add(o)) {
                    for (int p : things.get(o).fields) {
                        open.push(p);
                    }
                }
            }
            return met;
        }

        Set<Integer> alive() {
            return aliveBut(Set.of());
        }

        int sum(Set<Integer> numbers) {
            return numbers.stream().mapToInt(o -> things.get(o).size).sum();
        }
    }

    private final Place[] places = {new Place(), new Place(), new Place()};
    private final Place heap = places[0];

    int make(int r, int kind, int size) {
        if (outside(r, 0, 3) || outside(kind, 0, 3) || outside(size, 1, 99)) {
            return BAD_ARG;
        }
        if (heap.things.size() == 24) {
            return FULL;
        }
        int o = 0;
        while (heap.things.containsKey(o)) {
            o++;
        }
        Thing thing = new Thing();
        thing.kind = kind;
        thing.size = size;
        heap.things.put(o, thing);
        heap.roots[r] = o;
        return o;
    }

    int field(int o, int f, int p) {
        if (outside(f, 0, 3)) {
            return BAD_ARG;
        }
        if (!heap.things.containsKey(o) || (p != -1 && !heap.things.containsKey(p))) {
            return NONE;
        }
        int before = heap.things.get(o).fields[f];
        heap.things.get(o).fields[f] = p;
        return before;
    }

    int root(int r, int p) {
        if (outside(r, 0, 3)) {
            return BAD_ARG;
        }
        if (p != -1 && !heap.things.containsKey(p)) {
            return NONE;
        }
        int before = heap.roots[r];
        heap.roots[r] = p;
        return before;
    }

    int collect() {
        int before = heap.things.size();
        heap.things.keySet().retainAll(heap.alive());
        return before - heap.things.size();
    }

    int sweep() {
        int before = heap.things.size();
        heap.things.keySet().retainAll(left());
        return before - heap.things.size();
    }

    /** The numbers of the objects whose count of references does not come down to 0. */
    private Set<Integer> left() {
        int[] references = new int[24];
        List<int[]> from = new ArrayList<>();
        from.add(heap.roots);
        heap.things.values().forEach(thing -> from.add(thing.fields));
        for (int[] row : from) {
            for (int p : row) {
                if (p != -1) {
                    references[p]++;
                }
            }
        }
        Set<Integer> left = new TreeSet<>(heap.things.keySet());
        Deque<Integer> free = new ArrayDeque<>();
        left.stream().filter(o -> references[o] == 0).forEach(free::push);
        while (!free.isEmpty()) {
            int o = free.pop();
            left.remove(o);
            for (int p : heap.things.get(o).fields) {
                if (p != -1 && --references[p] == 0) {
                    free.push(p);
                }
            }
        }
        return left;
    }

    int dump(int d) {
        if (outside(d, 0, 1)) {
            return BAD_ARG;
        }
        Place copy = new Place();
        copy.roots = heap.roots.clone();
        for (int o : heap.alive()) {
            copy.things.put(o, heap.things.get(o).copy());
        }
        places[d + 1] = copy;
        return copy.things.size();
    }

    int objects() {
        return heap.things.size();
    }

    int garbage() {
        return heap.sum(heap.things.keySet()) - heap.sum(heap.alive());
    }

    int leaked() {
        Set<Integer> dead = left();
        dead.removeAll(heap.alive());
        return dead.size();
    }

    int alive(int w) {
        return outside(w, 0, 2) ? BAD_ARG : places[w].alive().size();
    }

    int bytes(int w, int kind) {
        if (outside(w, 0, 2) || outside(kind, -1, 3)) {
            return BAD_ARG;
        }
        Set<Integer> counted = places[w].alive();
        counted.removeIf(o -> kind != -1 && places[w].things.get(o).kind != kind);
        return places[w].sum(counted);
    }

    /** For each alive object all that are on every way to it, itself among them. */
    private Map<Integer, Set<Integer>> onEveryWay(int w) {
        Set<Integer> alive = places[w].alive();
        Set<Integer> rooted = new HashSet<>();
        for (int p : places[w].roots) {
            rooted.add(p);
        }
        Map<Integer, Set<Integer>> sets = new TreeMap<>();
        for (int o : alive) {
            sets.put(o, rooted.contains(o) ? new TreeSet<>(Set.of(o)) : new TreeSet<>(alive));
        }
        boolean changed = true;
        while (changed) {
            changed = false;
            for (int o : alive) {
                for (int p : places[w].things.get(o).fields) {
                    if (p != -1) {
                        Set<Integer> kept = new TreeSet<>(sets.get(o));
                        kept.add(p);
                        changed |= sets.get(p).retainAll(kept);
                    }
                }
            }
        }
        return sets;
    }

    int dominator(int w, int o) {
        if (outside(w, 0, 2)) {
            return BAD_ARG;
        }
        Map<Integer, Set<Integer>> sets = onEveryWay(w);
        if (!sets.containsKey(o)) {
            return NONE;
        }
        int nearest = -1;
        for (int a : sets.get(o)) {
            if (a != o && (nearest == -1 || sets.get(a).size() > sets.get(nearest).size())) {
                nearest = a;
            }
        }
        return nearest;
    }

    int retained(int w, int o) {
        if (outside(w, 0, 2)) {
            return BAD_ARG;
        }
        int sum = 0;
        for (Map.Entry<Integer, Set<Integer>> entry : onEveryWay(w).entrySet()) {
            if (entry.getValue().contains(o)) {
                sum += places[w].things.get(entry.getKey()).size;
            }
        }
        return sum;
    }

    int retainedByKind(int w, int kind) {
        if (outside(w, 0, 2) || outside(kind, 0, 3)) {
            return BAD_ARG;
        }
        Set<Integer> barred = new HashSet<>(places[w].things.keySet());
        barred.removeIf(o -> places[w].things.get(o).kind != kind);
        return places[w].sum(places[w].alive()) - places[w].sum(places[w].aliveBut(barred));
    }

    int heaviest(int w) {
        if (outside(w, 0, 2)) {
            return BAD_ARG;
        }
        int heaviest = NONE;
        for (int o : places[w].alive()) {
            if (heaviest == NONE || retained(w, o) > retained(w, heaviest)) {
                heaviest = o;
            }
        }
        return heaviest;
    }

    /** For each alive object the way that the document means, found by making every known way longer. */
    private Map<Integer, List<Integer>> ways(int w) {
        Map<Integer, List<Integer>> ways = new TreeMap<>();
        Deque<List<Integer>> open = new ArrayDeque<>();
        for (int p : places[w].roots) {
            if (p != -1) {
                open.add(List.of(p));
            }
        }
        while (!open.isEmpty()) {
            List<Integer> way = open.remove();
            int o = way.get(way.size() - 1);
            if (!ways.containsKey(o) || before(way, ways.get(o))) {
                ways.put(o, way);
                for (int p : places[w].things.get(o).fields) {
                    if (p != -1) {
                        List<Integer> longer = new ArrayList<>(way);
                        longer.add(p);
                        open.add(longer);
                    }
                }
            }
        }
        return ways;
    }

    private static boolean before(List<Integer> way, List<Integer> other) {
        if (way.size() != other.size()) {
            return way.size() < other.size();
        }
        for (int i = 0; i < way.size(); i++) {
            if (!way.get(i).equals(other.get(i))) {
                return way.get(i) < other.get(i);
            }
        }
        return false;
    }

    int depth(int w, int o) {
        if (outside(w, 0, 2)) {
            return BAD_ARG;
        }
        List<Integer> way = ways(w).get(o);
        return way == null ? NONE : way.size();
    }

    int way(int w, int o, int i) {
        if (outside(w, 0, 2)) {
            return BAD_ARG;
        }
        List<Integer> way = ways(w).get(o);
        return way == null || i < 0 || i >= way.size() ? NONE : way.get(i);
    }

    int holders(int w, int o) {
        if (outside(w, 0, 2)) {
            return BAD_ARG;
        }
        Set<Integer> alive = places[w].alive();
        if (!alive.contains(o)) {
            return NONE;
        }
        Set<Integer> holders = new HashSet<>();
        for (int a : alive) {
            for (int p : places[w].things.get(a).fields) {
                if (p == o && a != o) {
                    holders.add(a);
                }
            }
        }
        return holders.size();
    }

    private Set<Set<Integer>> allRings(int w) {
        boolean[][] comes = new boolean[24][24];
        Set<Integer> alive = places[w].alive();
        for (int o : alive) {
            for (int p : places[w].things.get(o).fields) {
                if (p != -1) {
                    comes[o][p] = true;
                }
            }
        }
        for (int by = 0; by < 24; by++) {
            for (int o = 0; o < 24; o++) {
                for (int p = 0; p < 24; p++) {
                    comes[o][p] |= comes[o][by] && comes[by][p];
                }
            }
        }
        Set<Set<Integer>> rings = new HashSet<>();
        for (int o : alive) {
            if (comes[o][o]) {
                Set<Integer> ring = new HashSet<>(alive);
                ring.removeIf(p -> !comes[o][p] || !comes[p][o]);
                rings.add(ring);
            }
        }
        return rings;
    }

    int rings(int w) {
        return outside(w, 0, 2) ? BAD_ARG : allRings(w).size();
    }

    int greatestRing(int w) {
        return outside(w, 0, 2) ? BAD_ARG : allRings(w).stream().mapToInt(Set::size).max().orElse(0);
    }

    int fresh() {
        Set<Integer> numbers = places[2].alive();
        numbers.removeAll(places[1].alive());
        return numbers.size();
    }

    int grown() {
        int grown = 0;
        for (int kind = 1; kind < 4; kind++) {
            if (bytes(2, kind) - bytes(1, kind) > bytes(2, grown) - bytes(1, grown)) {
                grown = kind;
            }
        }
        return grown;
    }

    private static boolean outside(int value, int least, int greatest) {
        return value < least || value > greatest;
    }
}
