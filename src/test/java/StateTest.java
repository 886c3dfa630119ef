import java.util.NoSuchElementException;
import java.util.function.Consumer;

/**
 * The sentences that hold for all calls: which of several exceptions it is, until when a plan is
 * there and what was run, and how many calls an object takes.
 */
public final class StateTest extends GraphChecks {
    public static void main(String[] args) {
        firstOfMake();
        firstOfPlan();
        firstOfQuestions();
        firstOfCell();
        firstOfResult();
        planUntilMake();
        planUntilWire();
        planUntilKeep();
        planStaysAfterRefusals();
        planStaysAfterOtherCalls();
        runUntilMakeWireOrKeep();
        runUntilPlan();
        runStaysAfterRefusals();
        runStaysAfterOtherCalls();
        isGoneForGood();
        lastOf512Calls();
        CHECKS.end();
    }

    private static void firstOfMake() {
        CHECKS.sentence("make: where several exceptions [..] would fit, it is the one that it names first");
        ArenaPlan x = new ArenaPlan();
        for (int node = 0; node < MOST_NODES; node++) {
            x.make(GIVEN, 1, 0);
        }
        int[][] wrong = {{-1, 1, 1}, {8, 1, 1}, {GIVEN, 0, 1}, {GIVEN, 17, 1}, {SPREAD, 0, 1}, {SPREAD, 17, 1},
            {CUT, -1, 1}, {CUT, 40, 1}, {CUT, 0, 0}, {CUT, 0, 17}};
        for (int[] made : wrong) {
            CHECKS.refuses("a wrong one as the thirteenth", IllegalArgumentException.class, () -> x.make(made[0], made[1], made[2]));
        }
        CHECKS.refuses("one that fits", UnsupportedOperationException.class, () -> x.make(GIVEN, 1, 1));
    }

    /** Nodes of their own, each with what makes a plan impossible. */
    private static final int[] NOT_WIRED = {NEGATE, 0, 0};
    private static final int[] IN_A_RING = {NEGATE, 0, 0, 2};
    private static final int[] NOT_FITTING = {SPREAD, 1, 0, 0};

    private static void firstOfPlan() {
        CHECKS.sentence("plan: where several exceptions [..] would fit, it is the one that it names first");
        CHECKS.refuses("way, no node", IllegalArgumentException.class, () -> new ArenaPlan().plan(-1));
        int[] fits = given(2);
        ArenaPlan all = made(fits, NOT_WIRED, IN_A_RING, NOT_FITTING);
        CHECKS.refuses("way and all", IllegalArgumentException.class, () -> all.plan(2));
        CHECKS.refuses("wires, ring and sizes", NoSuchElementException.class, () -> all.plan(0));
        ArenaPlan wires = made(fits, NOT_WIRED, fits);
        CHECKS.refuses("way and wires", IllegalArgumentException.class, () -> wires.plan(2));
        CHECKS.refuses("wires", NoSuchElementException.class, () -> wires.plan(1));
        ArenaPlan ring = made(fits, fits, IN_A_RING);
        CHECKS.refuses("way and ring", IllegalArgumentException.class, () -> ring.plan(2));
        ring.make(NEGATE, 0, 0);
        CHECKS.refuses("wires and ring", NoSuchElementException.class, () -> ring.plan(1));
        ArenaPlan sizes = made(fits, fits, fits, NOT_FITTING);
        CHECKS.refuses("way and sizes", IllegalArgumentException.class, () -> sizes.plan(-1));
        CHECKS.refuses("sizes", ArithmeticException.class, () -> sizes.plan(0));
        sizes.make(NEGATE, 0, 0);
        CHECKS.refuses("wires and sizes", NoSuchElementException.class, () -> sizes.plan(1));
        sizes.wire(4, 0, 4);
        CHECKS.refuses("ring and sizes", IllegalStateException.class, () -> sizes.plan(0));
        ArenaPlan before = made(spread(1, 1), fits, IN_A_RING);
        CHECKS.refuses("sizes of a lesser node than the ring's", IllegalStateException.class, () -> before.plan(1));
    }

    private static void firstOfQuestions() {
        CHECKS.sentence("order, about, cost: [..] the one that it names first");
        ArenaPlan x = made(given(1));
        for (int wrong : new int[] {-1, 1, 12, Integer.MIN_VALUE, Integer.MAX_VALUE}) {
            CHECKS.refuses("order, no plan", IllegalStateException.class, () -> x.order(wrong));
            CHECKS.refuses("about a node, no plan", IllegalStateException.class, () -> x.about(wrong, 0));
            CHECKS.refuses("cost, no plan", IllegalStateException.class, () -> x.cost(wrong));
        }
        for (int wrong : new int[] {-1, 5, Integer.MIN_VALUE, Integer.MAX_VALUE}) {
            CHECKS.refuses("about a part, no plan", IllegalStateException.class, () -> x.about(0, wrong));
            CHECKS.refuses("about neither, no plan", IllegalStateException.class, () -> x.about(wrong, wrong));
        }
    }

    private static void firstOfCell() {
        CHECKS.sentence("cell: [..] the one that it names first");
        ArenaPlan x = made(given(1));
        CHECKS.refuses("no plan", IllegalStateException.class, () -> x.cell(-1));
        x.plan(0);
        for (int wrong : new int[] {-1, 1, 480, Integer.MIN_VALUE, Integer.MAX_VALUE}) {
            CHECKS.refuses("not run", IllegalStateException.class, () -> x.cell(wrong));
        }
    }

    private static void firstOfResult() {
        CHECKS.sentence("result: [..] the one that it names first");
        ArenaPlan x = keeping(made(given(1), given(1)), 0);
        int[][] wrong = {{2, 0}, {-1, 0}, {1, 0}, {0, 1}, {0, -1}, {2, 1}, {1, -1}, {12, 40}};
        for (int[] asked : wrong) {
            CHECKS.refuses("no plan", IllegalStateException.class, () -> x.result(asked[0], asked[1]));
            CHECKS.refuses("not run", IllegalStateException.class, () -> planned(x).result(asked[0], asked[1]));
            x.keep(1, true);
            x.keep(1, false);
        }
        x.plan(0);
        x.run();
        CHECKS.refuses("no node, no int", NoSuchElementException.class, () -> x.result(2, 1));
        CHECKS.refuses("no node, no int", NoSuchElementException.class, () -> x.result(-1, -1));
        CHECKS.refuses("not kept, no int", NoSuchElementException.class, () -> x.result(1, 1));
        CHECKS.refuses("not kept, no int", NoSuchElementException.class, () -> x.result(1, -1));
        CHECKS.refuses("kept, no int", IndexOutOfBoundsException.class, () -> x.result(0, 1));
    }

    /** Two nodes, the second kept, planned by way 1 and run: result -3. */
    private static ArenaPlan ranPair() {
        ArenaPlan x = giving(keeping(made(given(1), of(NEGATE, 0)), 1), 0, 3);
        x.plan(1);
        x.run();
        return x;
    }

    private static void hasPlan(String after, ArenaPlan x) {
        CHECKS.answers("order after " + after, 0, () -> x.order(0));
        CHECKS.answers("about after " + after, 2, () -> x.about(1, LABEL));
        CHECKS.answers("cost after " + after, 2, () -> x.cost(1));
        CHECKS.answers("peak after " + after, 2, () -> x.peak());
        CHECKS.answers("least after " + after, 2, () -> x.least());
    }

    private static void hasNoPlan(String after, ArenaPlan x) {
        CHECKS.refuses("order after " + after, IllegalStateException.class, () -> x.order(0));
        CHECKS.refuses("about after " + after, IllegalStateException.class, () -> x.about(0, 0));
        CHECKS.refuses("cost after " + after, IllegalStateException.class, () -> x.cost(0));
        CHECKS.refuses("peak after " + after, IllegalStateException.class, () -> x.peak());
        CHECKS.refuses("least after " + after, IllegalStateException.class, () -> x.least());
        CHECKS.refuses("run after " + after, IllegalStateException.class, () -> x.run());
    }

    private static void wasRun(String after, ArenaPlan x) {
        CHECKS.answers("cell after " + after, 3, () -> x.cell(0));
        CHECKS.answers("result after " + after, -3, () -> x.result(1, 0));
    }

    private static void wasNotRun(String after, ArenaPlan x) {
        CHECKS.refuses("cell after " + after, IllegalStateException.class, () -> x.cell(0));
        CHECKS.refuses("result after " + after, IllegalStateException.class, () -> x.result(1, 0));
    }

    private static void planUntilMake() {
        CHECKS.sentence("The plan is there until a call make [..] is not refused");
        for (int operation = 0; operation < 8; operation++) {
            ArenaPlan x = ranPair();
            x.make(operation, 1, 1);
            hasNoPlan("make(" + operation + ", 1, 1)", x);
        }
    }

    private static void planUntilWire() {
        CHECKS.sentence("The plan is there until a call [..] wire [..] is not refused");
        for (int source : new int[] {0, 1, -1}) {
            ArenaPlan x = ranPair();
            CHECKS.answers("wire", true, () -> x.wire(1, 0, source));
            hasNoPlan("wire(1, 0, " + source + ")", x);
        }
    }

    private static void planUntilKeep() {
        CHECKS.sentence("The plan is there until a call [..] keep is not refused");
        ArenaPlan kept = ranPair();
        CHECKS.answers("keep", true, () -> kept.keep(0, true));
        hasNoPlan("keep", kept);
        ArenaPlan dropped = ranPair();
        CHECKS.answers("keep no more", true, () -> dropped.keep(1, false));
        hasNoPlan("keep no more", dropped);
    }

    /** Each is refused by what ranPair has. */
    private static void refusedCalls(ArenaPlan x, Consumer<String> after) {
        CHECKS.refuses("make", IllegalArgumentException.class, () -> x.make(GIVEN, 0, 0));
        after.accept("make refused");
        CHECKS.answers("wire", false, () -> x.wire(1, 1, 0));
        after.accept("wire of no input refused");
        CHECKS.answers("wire", false, () -> x.wire(1, 0, 2));
        after.accept("wire to no source refused");
        CHECKS.answers("keep", false, () -> x.keep(1, true));
        after.accept("keep refused");
        CHECKS.answers("keep no more", false, () -> x.keep(0, false));
        after.accept("keep no more refused");
        CHECKS.refuses("plan", IllegalArgumentException.class, () -> x.plan(2));
        after.accept("plan refused");
        CHECKS.answers("give", false, () -> x.give(1, 0, 1));
        after.accept("give refused");
    }

    private static void planStaysAfterRefusals() {
        CHECKS.sentence("The plan is there until a call make, wire or keep is not refused");
        ArenaPlan x = ranPair();
        hasPlan("run", x);
        refusedCalls(x, call -> hasPlan(call, x));
        ArenaPlan twelve = new ArenaPlan();
        for (int node = 0; node < MOST_NODES; node++) {
            twelve.make(GIVEN, 1, 0);
        }
        twelve.plan(0);
        CHECKS.refuses("make the thirteenth", UnsupportedOperationException.class, () -> twelve.make(GIVEN, 1, 0));
        CHECKS.answers("the plan of twelve stays", 11, () -> twelve.order(11));
    }

    private static void otherCalls(ArenaPlan x, Consumer<String> after) {
        x.give(0, 0, 3);
        after.accept("give");
        x.nodes();
        after.accept("nodes");
        CHECKS.refuses("ring", NoSuchElementException.class, () -> x.ring(0));
        after.accept("ring");
        x.least();
        after.accept("least");
        x.run();
        after.accept("run");
        x.cell(0);
        after.accept("cell");
        x.result(1, 0);
        after.accept("result");
    }

    private static void planStaysAfterOtherCalls() {
        CHECKS.sentence("The plan is there until [..]");
        ArenaPlan x = ranPair();
        otherCalls(x, call -> hasPlan(call, x));
    }

    private static void runUntilMakeWireOrKeep() {
        CHECKS.sentence("what was run, until one of these [..] is not refused");
        ArenaPlan made = ranPair();
        made.make(GIVEN, 1, 0);
        wasNotRun("make", made);
        ArenaPlan wired = ranPair();
        wired.wire(1, 0, 0);
        wasNotRun("wire to the same one", wired);
        ArenaPlan kept = ranPair();
        kept.keep(0, true);
        wasNotRun("keep", kept);
        ArenaPlan dropped = ranPair();
        dropped.keep(1, false);
        wasNotRun("keep no more", dropped);
        for (ArenaPlan x : new ArenaPlan[] {made, wired, kept, dropped}) {
            x.plan(0);
            wasNotRun("a change and plan", x);
        }
    }

    private static void runUntilPlan() {
        CHECKS.sentence("(Made anew it was not run.)");
        for (int way = 0; way < 2; way++) {
            ArenaPlan x = ranPair();
            x.plan(way);
            hasPlan("plan", x);
            wasNotRun("plan(" + way + ")", x);
            CHECKS.answers("run", 2, () -> x.run());
            wasRun("run", x);
        }
    }

    private static void runStaysAfterRefusals() {
        CHECKS.sentence("what was run, until one of these or plan is not refused");
        ArenaPlan x = ranPair();
        refusedCalls(x, call -> wasRun(call, x));
    }

    private static void runStaysAfterOtherCalls() {
        CHECKS.sentence("what was run, until [..]");
        ArenaPlan x = ranPair();
        otherCalls(x, call -> wasRun(call, x));
    }

    private static void isGoneForGood() {
        CHECKS.sentence("is there until");
        ArenaPlan kept = ranPair();
        kept.keep(0, true);
        kept.keep(0, false);
        hasNoPlan("keep and keep no more", kept);
        ArenaPlan wired = ranPair();
        wired.wire(1, 0, -1);
        wired.wire(1, 0, 0);
        hasNoPlan("wire away and back", wired);
        ArenaPlan refused = ranPair();
        refused.wire(1, 0, -1);
        CHECKS.refuses("plan", NoSuchElementException.class, () -> refused.plan(0));
        hasNoPlan("a change and a refused plan", refused);
        wasNotRun("a change and a refused plan", refused);
    }

    private static void lastOf512Calls() {
        CHECKS.sentence("An object is used for at most 512 calls after it has been made");
        ArenaPlan x = ranPair();
        int calls = 2 + 1 + 1 + 1 + 2;
        for (; calls < 512 - 7; calls += 4) {
            x.plan(0);
            x.run();
            x.least();
            x.keep(0, calls % 8 == 3);
        }
        x.plan(1);
        x.give(0, 0, 4);
        x.run();
        calls += 3;
        for (; calls < 511; calls++) {
            x.least();
        }
        CHECKS.answers("call 512", -4, () -> x.result(1, 0));
        ArenaPlan y = new ArenaPlan();
        for (int call = 0; call < 511; call++) {
            CHECKS.refuses("each of 511", NoSuchElementException.class, () -> y.plan(0));
        }
        CHECKS.answers("the first node by call 512", 0, () -> y.make(GIVEN, 1, 0));
    }
}
