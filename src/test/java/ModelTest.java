/** Runs of calls, the same each time, on the program and on the model; every answer must be the same. */
public final class ModelTest {
    private static final int RUNS = 3000;
    private static final int CALLS = 512;
    private static final int[] ODD = {-3, -2, -1, 24, 25, 31, 32, 33, 99, 100, Integer.MIN_VALUE, Integer.MAX_VALUE};

    private final Checks checks;
    private final HeapProfiler program = new HeapProfiler();
    private final Model model = new Model();
    private final int run;
    private final int numbers;
    private final int loosening;
    private final StringBuilder changes = new StringBuilder();
    private long state;

    private ModelTest(Checks checks, int run) {
        this.checks = checks;
        this.run = run;
        state = run * 7919L + 17;
        numbers = 1 + below(24);
        loosening = 1 + below(12);
    }

    public static void main(String[] args) {
        Checks checks = new Checks("ModelTest");
        for (int run = 0; run < RUNS && !checks.anyWrong(); run++) {
            new ModelTest(checks, run).play();
        }
        checks.end();
    }

    private void play() {
        for (int call = 0; call < CALLS && !checks.anyWrong(); call++) {
            checks.about("run " + run + " after" + changes);
            if (below(5) < 3) {
                change();
            } else {
                ask();
            }
        }
    }

    private int below(int bound) {
        state = state * 6364136223846793005L + 1442695040888963407L;
        return (int) ((state >>> 33) % bound);
    }

    /** Mostly a number from least on, sometimes one that may be out of range. */
    private int number(int least, int count) {
        return below(40) == 0 ? ODD[below(ODD.length)] : least + below(count);
    }

    private int object() {
        return number(0, numbers);
    }

    private int reference() {
        return below(12) < loosening / 3 ? -1 : object();
    }

    private int kind() {
        return number(0, 4);
    }

    private int place() {
        return number(0, 3);
    }

    private void same(String name, int... args) {
        Call call = new Call(name, args);
        checks.due(call.toString(), call.on(program), call.on(model));
    }

    private void changed(String name, int... args) {
        same(name, args);
        changes.append(' ').append(new Call(name, args));
    }

    private void change() {
        int choice = below(100);
        if (choice < 20) {
            changed("make", number(0, 4), kind(), number(1, 99));
        } else if (choice < 70) {
            changed("field", object(), number(0, 4), reference());
        } else if (choice < 70 + loosening) {
            changed("root", number(0, 4), below(2) == 0 ? -1 : object());
        } else if (choice < 71 + loosening) {
            changed("collect");
        } else if (choice < 73 + loosening) {
            changed("sweep");
        } else if (choice < 77 + loosening) {
            changed("dump", number(0, 2));
        }
    }

    private void ask() {
        switch (below(16)) {
            case 0 -> same("objects");
            case 1 -> same("garbage");
            case 2 -> same("leaked");
            case 3 -> same("alive", place());
            case 4 -> same("bytes", place(), kind());
            case 5 -> same("dominator", place(), object());
            case 6 -> same("retained", place(), object());
            case 7 -> same("retainedByKind", place(), kind());
            case 8 -> same("heaviest", place());
            case 9 -> same("depth", place(), object());
            case 10 -> same("way", place(), object(), number(0, 6));
            case 11 -> same("holders", place(), object());
            case 12 -> same("rings", place());
            case 13 -> same("greatestRing", place());
            case 14 -> same("fresh");
            default -> same("grown");
        }
    }
}
