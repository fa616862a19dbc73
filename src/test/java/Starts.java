import java.util.List;

/** The states in which the tests of the boundaries start, each named after the sentence that it is there for. */
final class Starts {
    private final Checks checks;

    Starts(Checks checks) {
        this.checks = checks;
    }

    Run none(String sentence) {
        checks.about(sentence);
        return new Run(checks);
    }

    /** Objects 0 to n - 1, of kinds 0 to 3 in turn and of sizes 1 to n, that nothing refers to. */
    Run loose(String sentence, int n) {
        Run x = none(sentence);
        for (int o = 0; o < n; o++) {
            x.call("make", 0, o % 4, o + 1);
        }
        x.call("root", 0, -1);
        return x;
    }

    /** The same objects, of which root 0 refers to the first and field 0 of each to the next one. */
    Run row(String sentence, int n) {
        Run x = loose(sentence, n);
        x.call("root", 0, 0);
        for (int o = 1; o < n; o++) {
            x.call("field", o - 1, 0, o);
        }
        return x;
    }

    /** Objects 1, 2 and 7 alive, 1 and 2 in a ring; 0 and 5 dead, 5 held by itself; 3, 4 and 6 gone; two dumps. */
    Run few(String sentence) {
        Run x = none(sentence);
        for (int o = 0; o < 8; o++) {
            x.call("make", o < 4 ? o : 0, o * 3 % 4, 10 + o);
        }
        x.call("field", 7, 0, 1);
        x.call("field", 1, 1, 2);
        x.call("field", 2, 2, 1);
        x.call("dump", 0);
        x.call("field", 3, 3, 5);
        x.call("field", 5, 0, 5);
        x.call("dump", 1);
        x.call("root", 1, -1);
        x.call("root", 3, -1);
        x.call("sweep");
        x.call("make", 3, 3, 99);
        x.call("root", 3, -1);
        return x;
    }

    /** 24 objects: a row of alive ones that ends in a ring, dead rings, a dead one that holds an alive one; two dumps. */
    Run full(String sentence) {
        Run x = none(sentence);
        for (int o = 0; o < 24; o++) {
            x.call("make", o % 4, o / 2 % 4, 99 - o);
        }
        x.call("field", 20, 0, 0);
        for (int o = 0; o < 9; o++) {
            x.call("field", o, o % 4, o + 1);
        }
        x.call("field", 9, 1, 5);
        x.call("dump", 0);
        x.call("field", 10, 0, 11);
        x.call("field", 11, 0, 10);
        x.call("field", 11, 1, 12);
        x.call("field", 13, 3, 13);
        x.call("field", 14, 2, 20);
        x.call("field", 14, 3, 15);
        x.call("root", 3, 16);
        x.call("dump", 1);
        x.call("root", 2, -1);
        return x;
    }

    List<Run> all(String sentence) {
        return List.of(none(sentence), few(sentence), full(sentence));
    }
}
