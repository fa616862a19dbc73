/** Runs of calls, the same each time, on the program and on the model; every answer must be the same. */
public final class ModelTest {
    private static final int RUNS = 3000;
    private static final int CALLS = 512;
    private static final int[] ODD = {-3, -2, -1, 24, 25, 31, 32, 33, 99, 100, Integer.MIN_VALUE, Integer.MAX_VALUE};

    private final Checks checks;
    private final HeapProfiler program = new HeapProfiler();
    private final Model model = new Model();
    private final int run;
    private final int numbers;
    private final int loosening;
    private final StringBuilder changes = new StringBuilder();
    private long state;

    private ModelTest(Checks checks, int run) {
        this.checks = checks;
        this.run = run;
        state = run * 7919L + 17;
        numbers = 1 + below(24);
        loosening = 1 + below(12);
    }

    public static void main(String[] args) {
        Checks checks = new Checks("ModelTest");
        for (int run = 0; run < RUNS && !checks.anyWrong(); run++) {
            new ModelTest(checks, run).play();
        }
        checks.end();
    }

    private void play() {
        for (int call = 0; call < CALLS && !checks.anyWrong(); call++) {
            checks.about("run " + run + " after" + changes);
            if (below(5) < 3) {
                change();
            } else {
                ask();
            }
        }
    }

    private int below(int bound) {
        state = state * 6364136223846793005L + 1442695040888963407L;
        return (int) ((state >>> 33) % bound);
    }

    /** Mostly a number from least on, sometimes one that may be out of range. */
    private int number(int least, int count) {
        return below(40) == 0 ? ODD[below(ODD.length)] : least + below(count);
    }

    private int object() {
        return number(0, numbers);
    }

    private int reference() {
        return below(12) < loosening / 3 ? -1 : object();
    }

    private int kind() {
        return number(0, 4);
    }

    private int place() {
        return number(0, 3);
    }

    private void same(String call, int got, int want) {
        checks.due(call, got, want);
    }

    private void changed(String call, int got, int want) {
        same(call, got, want);
        changes.append(' ').append(call);
    }

    private void change() {
        int choice = below(100);
        if (choice < 20) {
            int r = number(0, 4);
            int kind = kind();
            int size = number(1, 99);
            changed("make(" + r + ", " + kind + ", " + size + ")",
                    program.make(r, kind, size), model.make(r, kind, size));
        } else if (choice < 70) {
            int o = object();
            int f = number(0, 4);
            int p = reference();
            changed("field(" + o + ", " + f + ", " + p + ")", program.field(o, f, p), model.field(o, f, p));
        } else if (choice < 70 + loosening) {
            int r = number(0, 4);
            int p = below(2) == 0 ? -1 : object();
            changed("root(" + r + ", " + p + ")", program.root(r, p), model.root(r, p));
        } else if (choice < 71 + loosening) {
            changed("collect()", program.collect(), model.collect());
        } else if (choice < 73 + loosening) {
            changed("sweep()", program.sweep(), model.sweep());
        } else if (choice < 77 + loosening) {
            int d = number(0, 2);
            changed("dump(" + d + ")", program.dump(d), model.dump(d));
        }
    }

    private void ask() {
        int w = place();
        int o = object();
        int kind = kind();
        String ofPlace = "(" + w + ")";
        String ofObject = "(" + w + ", " + o + ")";
        String ofKind = "(" + w + ", " + kind + ")";
        switch (below(16)) {
            case 0 -> same("objects()", program.objects(), model.objects());
            case 1 -> same("garbage()", program.garbage(), model.garbage());
            case 2 -> same("leaked()", program.leaked(), model.leaked());
            case 3 -> same("alive" + ofPlace, program.alive(w), model.alive(w));
            case 4 -> same("bytes" + ofKind, program.bytes(w, kind), model.bytes(w, kind));
            case 5 -> same("dominator" + ofObject, program.dominator(w, o), model.dominator(w, o));
            case 6 -> same("retained" + ofObject, program.retained(w, o), model.retained(w, o));
            case 7 -> same("retainedByKind" + ofKind, program.retainedByKind(w, kind), model.retainedByKind(w, kind));
            case 8 -> same("heaviest" + ofPlace, program.heaviest(w), model.heaviest(w));
            case 9 -> same("depth" + ofObject, program.depth(w, o), model.depth(w, o));
            case 10 -> {
                int i = number(0, 6);
                same("way(" + w + ", " + o + ", " + i + ")", program.way(w, o, i), model.way(w, o, i));
            }
            case 11 -> same("holders" + ofObject, program.holders(w, o), model.holders(w, o));
            case 12 -> same("rings" + ofPlace, program.rings(w), model.rings(w));
            case 13 -> same("greatestRing" + ofPlace, program.greatestRing(w), model.greatestRing(w));
            case 14 -> same("fresh()", program.fresh(), model.fresh());
            default -> same("grown()", program.grown(), model.grown());
        }
    }
}
