import java.util.NoSuchElementException;

/** Promises 1 to 7: a new object, make, give, wire, keep, nodes, ring. */
public final class BuildingTest {
    private static final Checks CHECKS = new Checks();

    public static void main(String[] args) {
        newObject();
        objectsOfTheirOwn();
        makeNumbersAndBounds();
        makeBounds(0);
        makeBounds(7);
        makeCutBounds();
        makeTwelve();
        makeIsNotKeptAndNotWired();
        give();
        giveLeavesPlanAndRun();
        wire();
        wireReplaces();
        keep();
        changesEndThePlan();
        refusedCallsLeaveThePlan();
        nodes();
        ringOfOne();
        ringBeginsWithTheLeast();
        ringGoesTheShortestWay();
        ringTakesTheFirstInput();
        ringWithInputsThatAreNotWired();
        CHECKS.end();
    }

    private static void newObject() {
        ArenaPlan x = new ArenaPlan();
        CHECKS.answers("new: nodes", 0, () -> x.nodes());
        CHECKS.answers("new: give", false, () -> x.give(0, 0, 1));
        CHECKS.answers("new: wire", false, () -> x.wire(0, 0, -1));
        CHECKS.answers("new: keep", false, () -> x.keep(0, true));
        CHECKS.refuses("new: ring", NoSuchElementException.class, () -> x.ring(0));
        CHECKS.refuses("new: plan", NoSuchElementException.class, () -> x.plan(0));
        CHECKS.refuses("new: order", IllegalStateException.class, () -> x.order(0));
        CHECKS.refuses("new: about", IllegalStateException.class, () -> x.about(0, 0));
        CHECKS.refuses("new: cost", IllegalStateException.class, () -> x.cost(0));
        CHECKS.refuses("new: peak", IllegalStateException.class, () -> x.peak());
        CHECKS.refuses("new: least", IllegalStateException.class, () -> x.least());
        CHECKS.refuses("new: run", IllegalStateException.class, () -> x.run());
        CHECKS.refuses("new: cell", IllegalStateException.class, () -> x.cell(0));
        CHECKS.refuses("new: result", IllegalStateException.class, () -> x.result(0, 0));
    }

    private static void objectsOfTheirOwn() {
        ArenaPlan one = new ArenaPlan();
        ArenaPlan other = new ArenaPlan();
        CHECKS.answers("one: make", 0, () -> one.make(0, 1, 0));
        CHECKS.answers("one: plan", 1, () -> one.plan(0));
        CHECKS.answers("other: nodes", 0, () -> other.nodes());
        CHECKS.refuses("other: peak", IllegalStateException.class, () -> other.peak());
    }

    private static void makeNumbersAndBounds() {
        ArenaPlan x = new ArenaPlan();
        for (int wrong : new int[] {-1, 8, 9, Integer.MIN_VALUE, Integer.MAX_VALUE}) {
            CHECKS.refuses("make(" + wrong + ")", IllegalArgumentException.class, () -> x.make(wrong, 1, 1));
        }
        CHECKS.answers("nodes after refused ones", 0, () -> x.nodes());
        for (int operation = 0; operation < 8; operation++) {
            int made = operation;
            CHECKS.answers("make(" + made + ")", made, () -> x.make(made, 1, 1));
        }
        ArenaPlan y = new ArenaPlan();
        int[] numbersForNothing = {1, 2, 3, 4, 6};
        for (int k = 0; k < numbersForNothing.length; k++) {
            int operation = numbersForNothing[k];
            CHECKS.answers("make with p, q for nothing", k, () -> y.make(operation, -1 - operation, Integer.MAX_VALUE));
        }
    }

    /** GIVEN and SPREAD: p is 1 .. 16, q is for nothing. */
    private static void makeBounds(int operation) {
        ArenaPlan x = new ArenaPlan();
        for (int wrong : new int[] {0, -1, 17, Integer.MIN_VALUE, Integer.MAX_VALUE}) {
            CHECKS.refuses("make p " + wrong, IllegalArgumentException.class, () -> x.make(operation, wrong, 1));
        }
        CHECKS.answers("make p 1", 0, () -> x.make(operation, 1, -1));
        CHECKS.answers("make p 16", 1, () -> x.make(operation, 16, 17));
    }

    private static void makeCutBounds() {
        ArenaPlan x = new ArenaPlan();
        for (int wrong : new int[] {-1, 40, Integer.MIN_VALUE, Integer.MAX_VALUE}) {
            CHECKS.refuses("make CUT p " + wrong, IllegalArgumentException.class, () -> x.make(5, wrong, 1));
        }
        for (int wrong : new int[] {0, -1, 17, Integer.MIN_VALUE, Integer.MAX_VALUE}) {
            CHECKS.refuses("make CUT q " + wrong, IllegalArgumentException.class, () -> x.make(5, 0, wrong));
        }
        CHECKS.answers("make CUT least", 0, () -> x.make(5, 0, 1));
        CHECKS.answers("make CUT greatest", 1, () -> x.make(5, 39, 16));
    }

    private static void makeTwelve() {
        ArenaPlan x = new ArenaPlan();
        for (int node = 0; node < 12; node++) {
            CHECKS.answers("make one of twelve", node, () -> x.make(0, 1, 0));
        }
        CHECKS.answers("plan of twelve", 1, () -> x.plan(0));
        CHECKS.refuses("make the thirteenth", UnsupportedOperationException.class, () -> x.make(0, 1, 0));
        CHECKS.refuses("make the thirteenth wrongly", IllegalArgumentException.class, () -> x.make(0, 17, 0));
        CHECKS.refuses("make no operation as the thirteenth", IllegalArgumentException.class, () -> x.make(8, 1, 1));
        CHECKS.answers("nodes", 12, () -> x.nodes());
        CHECKS.answers("the plan stays", 11, () -> x.order(11));
    }

    private static void makeIsNotKeptAndNotWired() {
        ArenaPlan x = new ArenaPlan();
        x.make(0, 1, 0);
        CHECKS.answers("a new node is not kept", false, () -> x.keep(0, false));
        x.make(1, 0, 0);
        CHECKS.refuses("a new node is not wired", NoSuchElementException.class, () -> x.plan(0));
        x.wire(1, 0, 0);
        x.make(2, 0, 0);
        x.wire(2, 0, 0);
        CHECKS.refuses("its second input neither", NoSuchElementException.class, () -> x.plan(0));
        x.wire(2, 1, 0);
        CHECKS.answers("all wired", 2, () -> x.plan(0));
    }

    private static void give() {
        ArenaPlan x = new ArenaPlan();
        x.make(0, 3, 0);
        x.make(7, 3, 0);
        x.make(0, 1, 0);
        x.wire(1, 0, 2);
        CHECKS.answers("give no node", false, () -> x.give(-1, 0, 5));
        CHECKS.answers("give behind the nodes", false, () -> x.give(3, 0, 5));
        CHECKS.answers("give another", false, () -> x.give(1, 0, 5));
        CHECKS.answers("give before the first", false, () -> x.give(0, -1, 5));
        CHECKS.answers("give behind the last", false, () -> x.give(0, 3, 5));
        CHECKS.answers("give behind the only", false, () -> x.give(2, 1, 5));
        CHECKS.answers("give the last", true, () -> x.give(0, 2, Integer.MIN_VALUE));
        CHECKS.answers("give the first", true, () -> x.give(0, 0, 7));
        CHECKS.answers("give it the same", true, () -> x.give(0, 0, 7));
        x.keep(0, true);
        x.plan(0);
        x.run();
        CHECKS.answers("given first", 7, () -> x.result(0, 0));
        CHECKS.answers("not given", 0, () -> x.result(0, 1));
        CHECKS.answers("given last", Integer.MIN_VALUE, () -> x.result(0, 2));
    }

    private static void giveLeavesPlanAndRun() {
        ArenaPlan x = new ArenaPlan();
        x.make(0, 1, 0);
        x.keep(0, true);
        x.give(0, 0, 4);
        x.plan(0);
        x.run();
        CHECKS.answers("give after a run", true, () -> x.give(0, 0, 9));
        CHECKS.answers("the plan stays", 1, () -> x.peak());
        CHECKS.answers("the result stays", 4, () -> x.result(0, 0));
        CHECKS.answers("the cell stays", 4, () -> x.cell(0));
        x.run();
        CHECKS.answers("the result of the next run", 9, () -> x.result(0, 0));
    }

    private static void wire() {
        ArenaPlan x = new ArenaPlan();
        for (int operation = 0; operation < 8; operation++) {
            x.make(operation, 1, 1);
        }
        int[] inputs = {0, 1, 2, 2, 2, 1, 1, 1};
        for (int node = 0; node < 8; node++) {
            for (int input = -1; input < 4; input++) {
                int wired = node;
                int place = input;
                boolean there = input >= 0 && input < inputs[node];
                CHECKS.answers("wire(" + node + ", " + input + ")", there, () -> x.wire(wired, place, 0));
                CHECKS.answers("unwire(" + node + ", " + input + ")", there, () -> x.wire(wired, place, -1));
            }
        }
        CHECKS.answers("wire no node", false, () -> x.wire(-1, 0, 0));
        CHECKS.answers("wire behind the nodes", false, () -> x.wire(8, 0, 0));
        CHECKS.answers("wire to no source", false, () -> x.wire(1, 0, -2));
        CHECKS.answers("wire to a source behind the nodes", false, () -> x.wire(1, 0, 8));
        CHECKS.answers("wire to a later node", true, () -> x.wire(1, 0, 7));
        CHECKS.answers("wire to the same one", true, () -> x.wire(1, 0, 7));
        CHECKS.answers("wire to itself", true, () -> x.wire(1, 0, 1));
        CHECKS.answers("unwire", true, () -> x.wire(1, 0, -1));
        CHECKS.answers("unwire again", true, () -> x.wire(1, 0, -1));
    }

    private static void wireReplaces() {
        ArenaPlan x = new ArenaPlan();
        x.make(0, 2, 0);
        x.make(0, 3, 0);
        x.make(1, 0, 0);
        x.wire(2, 0, 0);
        x.plan(0);
        CHECKS.answers("size by the first source", 2, () -> x.about(2, 0));
        x.wire(2, 0, 1);
        x.plan(0);
        CHECKS.answers("size by the second source", 3, () -> x.about(2, 0));
        x.wire(2, 0, -1);
        CHECKS.refuses("no source", NoSuchElementException.class, () -> x.plan(0));
    }

    private static void keep() {
        ArenaPlan x = new ArenaPlan();
        x.make(0, 1, 0);
        CHECKS.answers("keep no node", false, () -> x.keep(-1, true));
        CHECKS.answers("keep behind the nodes", false, () -> x.keep(1, true));
        CHECKS.answers("keep", true, () -> x.keep(0, true));
        CHECKS.answers("keep again", false, () -> x.keep(0, true));
        CHECKS.answers("keep no more", true, () -> x.keep(0, false));
        CHECKS.answers("keep no more again", false, () -> x.keep(0, false));
    }

    /** One node, kept, planned and run. */
    private static ArenaPlan ranPlan() {
        ArenaPlan x = new ArenaPlan();
        x.make(0, 1, 0);
        x.make(1, 0, 0);
        x.wire(1, 0, 0);
        x.keep(1, true);
        x.give(0, 0, 3);
        x.plan(1);
        x.run();
        return x;
    }

    private static void hasNoPlan(String after, ArenaPlan x) {
        CHECKS.refuses("peak after " + after, IllegalStateException.class, () -> x.peak());
        CHECKS.refuses("run after " + after, IllegalStateException.class, () -> x.run());
        CHECKS.refuses("cell after " + after, IllegalStateException.class, () -> x.cell(0));
        CHECKS.refuses("result after " + after, IllegalStateException.class, () -> x.result(1, 0));
        x.plan(0);
        CHECKS.refuses("cell after " + after + " and plan", IllegalStateException.class, () -> x.cell(0));
    }

    private static void changesEndThePlan() {
        ArenaPlan made = ranPlan();
        made.make(0, 1, 0);
        hasNoPlan("make", made);
        ArenaPlan wired = ranPlan();
        wired.wire(1, 0, 0);
        hasNoPlan("wire to the same one", wired);
        ArenaPlan kept = ranPlan();
        kept.keep(0, true);
        hasNoPlan("keep", kept);
        ArenaPlan dropped = ranPlan();
        dropped.keep(1, false);
        hasNoPlan("keep no more", dropped);
    }

    private static void refusedCallsLeaveThePlan() {
        ArenaPlan x = ranPlan();
        CHECKS.refuses("make refused", IllegalArgumentException.class, () -> x.make(0, 0, 0));
        CHECKS.answers("wire refused", false, () -> x.wire(1, 1, 0));
        CHECKS.answers("wire refused", false, () -> x.wire(1, 0, 2));
        CHECKS.answers("keep refused", false, () -> x.keep(1, true));
        CHECKS.answers("give refused", false, () -> x.give(1, 0, 1));
        CHECKS.refuses("plan refused", IllegalArgumentException.class, () -> x.plan(2));
        CHECKS.answers("the result is still there", -3, () -> x.result(1, 0));
        CHECKS.answers("the plan is still there", 2, () -> x.peak());
    }

    private static void nodes() {
        ArenaPlan x = new ArenaPlan();
        for (int node = 0; node < 12; node++) {
            int before = node;
            CHECKS.answers("nodes", before, () -> x.nodes());
            x.make(before % 8, 1, 1);
        }
        CHECKS.answers("nodes", 12, () -> x.nodes());
        Checks.outcome(() -> x.make(0, 1, 1));
        CHECKS.answers("nodes after a refused make", 12, () -> x.nodes());
    }

    private static void isRing(String what, ArenaPlan x, int... ring) {
        CHECKS.refuses(what + ": ring(-1)", NoSuchElementException.class, () -> x.ring(-1));
        for (int k = 0; k < ring.length; k++) {
            int asked = k;
            CHECKS.answers(what + ": ring(" + k + ")", ring[k], () -> x.ring(asked));
        }
        CHECKS.refuses(what + ": ring(" + ring.length + ")", NoSuchElementException.class, () -> x.ring(ring.length));
    }

    /** All NEGATE or ADD by the number of their sources. */
    private static ArenaPlan graph(int[]... sources) {
        ArenaPlan x = new ArenaPlan();
        for (int[] inputs : sources) {
            x.make(inputs.length, 1, 1);
        }
        for (int node = 0; node < sources.length; node++) {
            for (int input = 0; input < sources[node].length; input++) {
                x.wire(node, input, sources[node][input]);
            }
        }
        return x;
    }

    private static int[] from(int... sources) {
        return sources;
    }

    private static void ringOfOne() {
        isRing("no ring", graph(from(), from(0), from(0, 1)));
        isRing("itself", graph(from(), from(1)), 1);
        isRing("itself twice", graph(from(0, 0)), 0);
        isRing("itself, not the way round", graph(from(1, 0), from(0)), 0);
        isRing("shared sources are no ring", graph(from(1, 2), from(3), from(3), from()));
    }

    private static void ringBeginsWithTheLeast() {
        isRing("two", graph(from(1), from(0)), 0, 1);
        isRing("a node that leads to a ring is in none", graph(from(1), from(2), from(1)), 1, 2);
        isRing("of two rings", graph(from(3), from(2), from(1), from(0)), 0, 3);
        isRing("of two rings", graph(from(4), from(2), from(1), from(4), from(3)), 1, 2);
        isRing("against the numbers", graph(from(3), from(0), from(1), from(2)), 0, 3, 2, 1);
        int[][] twelve = new int[12][];
        for (int node = 0; node < 12; node++) {
            twelve[node] = from((node + 5) % 12);
        }
        isRing("of twelve", graph(twelve), 0, 5, 10, 3, 8, 1, 6, 11, 4, 9, 2, 7);
    }

    private static void ringGoesTheShortestWay() {
        isRing("shorter second", graph(from(1), from(2, 3), from(4), from(0), from(0)), 0, 1, 3);
        isRing("shorter first", graph(from(1), from(3, 2), from(4), from(0), from(0)), 0, 1, 3);
        isRing("past what leads nowhere", graph(from(1), from(2, 3), from(), from(4), from(0)), 0, 1, 3, 4);
        isRing("past another ring", graph(from(1), from(2, 3), from(2), from(4), from(0)), 0, 1, 3, 4);
        isRing("straight back", graph(from(1), from(2, 0), from(0)), 0, 1);
    }

    private static void ringTakesTheFirstInput() {
        isRing("first of equal ones", graph(from(1), from(2, 3), from(0), from(0)), 0, 1, 2);
        isRing("first of equal ones", graph(from(1), from(3, 2), from(0), from(0)), 0, 1, 3);
        isRing("first at the beginning", graph(from(2, 1), from(0), from(0)), 0, 2);
    }

    private static void ringWithInputsThatAreNotWired() {
        ArenaPlan x = graph(from(-1, 1), from(0, -1), from(-1));
        isRing("not all wired", x, 0, 1);
        CHECKS.refuses("plan", NoSuchElementException.class, () -> x.plan(0));
        x.wire(1, 0, -1);
        isRing("opened", x);
        x.wire(1, 1, 1);
        isRing("wired again", x, 1);
    }
}
