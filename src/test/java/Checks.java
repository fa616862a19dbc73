/** Counts and prints the answers that are not as due. */
final class Checks {
    private final String test;
    private int made = 0;
    private int wrong = 0;
    private String about = "";

    Checks(String test) {
        this.test = test;
    }

    void about(String words) {
        about = words;
    }

    void due(String call, long got, long want) {
        made++;
        if (got != want) {
            wrong++;
            System.out.println(about + ": " + call + " answered " + got + ", due is " + want);
        }
    }

    void holds(String what, boolean so) {
        made++;
        if (!so) {
            wrong++;
            System.out.println(about + ": " + what + " does not hold");
        }
    }

    boolean anyWrong() {
        return wrong != 0;
    }

    void end() {
        System.out.println(test + ": " + made + " checks, " + wrong + " wrong");
        if (wrong != 0) {
            System.exit(1);
        }
    }
}
