import java.util.List;

/** No call ever throws: every call with every choice of edge numbers, and each answer is that of the model. */
public final class EdgesTest {
    private static final List<Call> SHAPES = List.of(
            new Call("collect"), new Call("sweep"), new Call("objects"), new Call("garbage"), new Call("leaked"),
            new Call("fresh"), new Call("grown"),
            new Call("dump", 0), new Call("alive", 0), new Call("heaviest", 0), new Call("rings", 0),
            new Call("greatestRing", 0),
            new Call("root", 0, 0), new Call("bytes", 0, 0), new Call("dominator", 0, 0), new Call("retained", 0, 0),
            new Call("retainedByKind", 0, 0), new Call("depth", 0, 0), new Call("holders", 0, 0),
            new Call("make", 0, 0, 0), new Call("field", 0, 0, 0), new Call("way", 0, 0, 0));
    private static final int[] EDGES = Edges.all();

    private static final Checks checks = new Checks("EdgesTest");

    private final Run start;
    private Run program;
    private Model model;

    private EdgesTest(Run start) {
        this.start = start;
        renew();
    }

    public static void main(String[] args) {
        for (Run start : new Starts(checks).all("No call ever throws")) {
            EdgesTest test = new EdgesTest(start);
            for (Call shape : SHAPES) {
                test.callWithAllEdges(shape);
            }
        }
        checks.end();
    }

    private void renew() {
        program = start.twin();
        model = new Model();
        start.made().forEach(call -> call.on(model));
    }

    private void callWithAllEdges(Call shape) {
        int parameters = shape.args().length;
        int choices = (int) Math.pow(EDGES.length, parameters);
        for (int choice = 0; choice < choices && !checks.anyWrong(); choice++) {
            int[] args = new int[parameters];
            int rest = choice;
            for (int i = 0; i < parameters; i++) {
                args[i] = EDGES[rest % EDGES.length];
                rest /= EDGES.length;
            }
            if (program.callsLeft() == 0) {
                renew();
            }
            Call call = new Call(shape.name(), args);
            checks.due(call.toString(), program.call(call), call.on(model));
        }
    }
}
