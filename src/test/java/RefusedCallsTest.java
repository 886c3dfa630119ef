import java.util.ArrayList;
import java.util.List;
import java.util.Set;
import java.util.TreeSet;
import java.util.function.Consumer;
import java.util.function.Function;
import java.util.function.Supplier;

/**
 * A call that answers false, or throws, changes nothing: in each of several states each of many
 * calls is tried, and where it is refused, the object must not be told from one without that call.
 */
public final class RefusedCallsTest extends GraphChecks {
    /** How a state is come to, and what makes its graph one that can be planned and run. */
    private record State(String name, Supplier<ArenaPlan> reached, Consumer<ArenaPlan> mended) { }

    /** The name is that of the face, for counting which calls were refused. */
    private record Call(String name, String text, Function<ArenaPlan, Object> on) { }

    private static final int[] ARGUMENTS = {Integer.MIN_VALUE, -2, -1, 0, 1, 2, 3, 4, 5, 12, Integer.MAX_VALUE};
    private static final Set<String> REFUSED = new TreeSet<>();

    public static void main(String[] args) {
        CHECKS.sentence("A call that answers false, or throws, changes nothing");
        List<Call> calls = calls();
        for (State state : states()) {
            String untouched = told(state.reached().get(), state);
            for (Call call : calls) {
                tryOut(state, call, untouched);
            }
        }
        CHECKS.answers("all calls that can be were refused", "[about, cell, cost, give, keep, least, make, order, peak, plan, "
            + "result, ring, run, wire]", () -> REFUSED);
        CHECKS.end();
    }

    private static void tryOut(State state, Call call, String untouched) {
        ArenaPlan x = state.reached().get();
        String outcome = Checks.outcome(() -> call.on().apply(x));
        if (outcome.equals("false") || outcome.startsWith("java")) {
            REFUSED.add(call.name());
            String told = told(x, state);
            CHECKS.compare(state.name() + ", " + call.text() + ", changed", "false", String.valueOf(!told.equals(untouched)));
        }
    }

    /** All that can be asked of an object, before and after its graph is planned and run. */
    private static String told(ArenaPlan x, State state) {
        StringBuilder told = new StringBuilder();
        ask(x, told);
        state.mended().accept(x);
        for (int node = 0; node < x.nodes(); node++) {
            int kept = node;
            told.append(Checks.outcome(() -> x.keep(kept, true))).append(' ');
        }
        told.append(Checks.outcome(() -> x.plan(0))).append(' ');
        told.append(Checks.outcome(() -> x.run())).append(' ');
        ask(x, told);
        return told.toString();
    }

    private static void ask(ArenaPlan x, StringBuilder told) {
        List<Supplier<Object>> questions = new ArrayList<>();
        questions.add(() -> x.nodes());
        questions.add(() -> x.peak());
        questions.add(() -> x.least());
        for (int k = 0; k < x.nodes(); k++) {
            int asked = k;
            questions.add(() -> x.ring(asked));
            questions.add(() -> x.order(asked));
            questions.add(() -> x.cost(asked));
            questions.add(() -> x.result(asked, 0));
            questions.add(() -> x.result(asked, 1));
            for (int part = 0; part < 5; part++) {
                int askedPart = part;
                questions.add(() -> x.about(asked, askedPart));
            }
        }
        for (int i = 0; i < 17; i++) {
            int asked = i;
            questions.add(() -> x.cell(asked));
        }
        for (Supplier<Object> question : questions) {
            told.append(Checks.outcome(question)).append(' ');
        }
    }

    private static List<State> states() {
        int[][] nodes = {given(2), given(2), of(ADD, 1, 0), of(TOTAL, 2), cut(1, 1, 1)};
        Supplier<ArenaPlan> built = () -> giving(giving(keeping(made(nodes), 1, 3), 0, 5, 6), 1, 7, 8);
        Supplier<ArenaPlan> plannedOnly = () -> then(built, x -> x.plan(1));
        Supplier<ArenaPlan> runOnce = () -> then(plannedOnly, x -> x.run());
        Consumer<ArenaPlan> asItIs = x -> { };
        return List.of(
            new State("no node", ArenaPlan::new, x -> x.make(GIVEN, 2, 0)),
            new State("not planned", built, asItIs),
            new State("planned", plannedOnly, asItIs),
            new State("run", runOnce, asItIs),
            new State("run and given since", () -> then(runOnce, x -> x.give(0, 0, 50)), asItIs),
            new State("one input not wired", () -> then(runOnce, x -> x.wire(2, 1, -1)), x -> x.wire(2, 1, 0)),
            new State("a ring", () -> then(runOnce, x -> x.wire(2, 1, 2)), x -> x.wire(2, 1, 0)),
            new State("sizes that do not fit", () -> then(runOnce, x -> x.wire(2, 1, 3)), x -> x.wire(2, 1, 0)),
            new State("twelve nodes", RefusedCallsTest::ranTwelve, asItIs));
    }

    private static ArenaPlan then(Supplier<ArenaPlan> before, Consumer<ArenaPlan> call) {
        ArenaPlan x = before.get();
        call.accept(x);
        return x;
    }

    private static ArenaPlan ranTwelve() {
        ArenaPlan x = made(of(NEGATE, 1), of(ADD, 3, 2), given(1), given(1), of(JOIN, 3, 2), cut(0, 1, 4), given(1), given(1),
            of(TOTAL, 4), spread(2, 6), of(MULTIPLY, 9, 4), given(2));
        return ran(keeping(giving(giving(x, 2, 3), 3, 4), 1, 11));
    }

    private static List<Call> calls() {
        List<Call> calls = new ArrayList<>();
        calls.add(new Call("peak", "peak()", x -> x.peak()));
        calls.add(new Call("least", "least()", x -> x.least()));
        calls.add(new Call("run", "run()", x -> x.run()));
        for (int a : ARGUMENTS) {
            calls.add(new Call("plan", "plan(" + a + ")", x -> x.plan(a)));
            calls.add(new Call("ring", "ring(" + a + ")", x -> x.ring(a)));
            calls.add(new Call("order", "order(" + a + ")", x -> x.order(a)));
            calls.add(new Call("cost", "cost(" + a + ")", x -> x.cost(a)));
            calls.add(new Call("cell", "cell(" + a + ")", x -> x.cell(a)));
            calls.add(new Call("keep", "keep(" + a + ", true)", x -> x.keep(a, true)));
            calls.add(new Call("keep", "keep(" + a + ", false)", x -> x.keep(a, false)));
            for (int b : ARGUMENTS) {
                calls.add(new Call("about", "about(" + a + ", " + b + ")", x -> x.about(a, b)));
                calls.add(new Call("result", "result(" + a + ", " + b + ")", x -> x.result(a, b)));
                calls.add(new Call("give", "give(" + a + ", " + b + ", 99)", x -> x.give(a, b, 99)));
            }
        }
        addCallsOfThree(calls);
        return calls;
    }

    private static void addCallsOfThree(List<Call> calls) {
        for (int a : new int[] {-1, 0, 2, 4, 5, 12}) {
            for (int b : new int[] {-1, 0, 1, 2}) {
                for (int source : new int[] {-2, -1, 0, 3, 5, 12}) {
                    calls.add(new Call("wire", "wire(" + a + ", " + b + ", " + source + ")", x -> x.wire(a, b, source)));
                }
            }
        }
        for (int operation : new int[] {-1, 0, 1, 5, 7, 8}) {
            for (int p : new int[] {-1, 0, 1, 16, 17, 39, 40}) {
                for (int q : new int[] {0, 1, 16, 17}) {
                    String text = "make(" + operation + ", " + p + ", " + q + ")";
                    calls.add(new Call("make", text, x -> x.make(operation, p, q)));
                }
            }
        }
    }
}
