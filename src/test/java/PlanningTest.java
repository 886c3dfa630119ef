import java.util.NoSuchElementException;
import java.util.function.Function;

/** Promises 8 to 13, sentence by sentence: plan, order, about, cost, peak, least. */
public final class PlanningTest extends GraphChecks {
    private static final int[] OUT_OF_TWO = {-1, 2, 11, 12, Integer.MIN_VALUE, Integer.MAX_VALUE};

    public static void main(String[] args) {
        planAnswersItsArena();
        planByNoWay();
        planOfNoNode();
        planOfInputsThatAreNotWired();
        planOfARing();
        planOfSizesThatDoNotFit();
        planRefusedLeavesThePlan();
        orderOfSteps();
        orderOfNoStep();
        aboutParts();
        aboutLabelAlsoForWayZero();
        aboutNoNode();
        aboutNoPart();
        costOfSteps();
        costOfNoStep();
        peakOfThePlan();
        leastOfOneOrder();
        leastBelowBothWays();
        leastWithKept();
        leastOfTheNodesOfThePlan();
        nothingWithoutAPlan();
        CHECKS.end();
    }

    private static ArenaPlan two() {
        return made(given(1), of(NEGATE, 0));
    }

    private static void isRefused(String what, Class<? extends RuntimeException> exception, ArenaPlan x) {
        for (int way = 0; way < 2; way++) {
            int tried = way;
            CHECKS.refuses(what + ": plan(" + way + ")", exception, () -> x.plan(tried));
        }
        CHECKS.refuses(what + ": no plan then", IllegalStateException.class, () -> x.peak());
    }

    private static void planAnswersItsArena() {
        CHECKS.sentence("Makes the plan by a way: its ARENA.");
        ArenaPlan x = made(given(1), given(1), given(1), given(1), of(ADD, 0, 1), of(ADD, 2, 3), of(ADD, 4, 5));
        plans("by numbers", 5, x, 0);
        CHECKS.answers("by numbers: order(2)", 2, () -> x.order(2));
        plans("by labels", 4, x, 1);
        CHECKS.answers("by labels: order(2)", 4, () -> x.order(2));
        plans("by numbers again", 5, x, 0);
        CHECKS.answers("by numbers again: order(2)", 2, () -> x.order(2));
    }

    private static void planByNoWay() {
        CHECKS.sentence("IllegalArgumentException when way is not 0 or 1");
        ArenaPlan x = two();
        for (int wrong : new int[] {-1, 2, Integer.MIN_VALUE, Integer.MAX_VALUE}) {
            CHECKS.refuses("plan(" + wrong + ")", IllegalArgumentException.class, () -> x.plan(wrong));
        }
        CHECKS.refuses("no plan then", IllegalStateException.class, () -> x.peak());
        plans("0", 2, x, 0);
        plans("1", 2, x, 1);
    }

    private static void planOfNoNode() {
        CHECKS.sentence("NoSuchElementException when there is no node");
        isRefused("new", NoSuchElementException.class, new ArenaPlan());
        plans("one node is enough", 1, made(given(1)), 0);
        plans("one node is enough", 1, made(given(1)), 1);
    }

    private static void planOfInputsThatAreNotWired() {
        CHECKS.sentence("or an input is not wired");
        isRefused("the only", NoSuchElementException.class, made(of(NEGATE)));
        isRefused("both", NoSuchElementException.class, made(given(1), of(ADD)));
        isRefused("the first", NoSuchElementException.class, made(given(1), of(ADD, -1, 0)));
        isRefused("the second", NoSuchElementException.class, made(given(1), of(ADD, 0)));
        isRefused("of the first node", NoSuchElementException.class, made(of(NEGATE), given(1), of(NEGATE, 1)));
        isRefused("of one that nobody needs", NoSuchElementException.class, made(given(1), of(NEGATE, 0), of(TOTAL)));
        ArenaPlan x = planned(two());
        x.make(NEGATE, 0, 0);
        isRefused("of a new one", NoSuchElementException.class, x);
    }

    private static void planOfARing() {
        CHECKS.sentence("IllegalStateException when a node is in a ring");
        isRefused("of one", IllegalStateException.class, made(of(NEGATE, 0)));
        isRefused("of two", IllegalStateException.class, made(of(NEGATE, 1), of(NEGATE, 0)));
        isRefused("by second inputs", IllegalStateException.class, made(given(1), of(ADD, 0, 2), of(ADD, 0, 1)));
        isRefused("beside what fits", IllegalStateException.class, made(given(1), of(NEGATE, 0), of(NEGATE, 2)));
        ArenaPlan x = planned(two());
        x.wire(1, 0, 1);
        isRefused("where there was none", IllegalStateException.class, x);
        x.wire(1, 0, 0);
        plans("where there is none any more", 2, x, 0);
    }

    private static void planOfSizesThatDoNotFit() {
        CHECKS.sentence("ArithmeticException when sizes are not as said");
        isRefused("ADD", ArithmeticException.class, made(given(1), given(2), of(ADD, 0, 1)));
        isRefused("MULTIPLY", ArithmeticException.class, made(given(2), given(1), of(MULTIPLY, 0, 1)));
        isRefused("JOIN", ArithmeticException.class, withForty(of(JOIN, 3, 3)));
        isRefused("CUT", ArithmeticException.class, made(given(1), cut(1, 1, 0)));
        isRefused("SPREAD", ArithmeticException.class, made(given(2), spread(1, 0)));
        isRefused("of the first node", ArithmeticException.class, made(spread(1, 1), given(2), of(NEGATE, 1)));
        ArenaPlan x = made(given(2), of(TOTAL, 0), spread(2, 1));
        plans("of a total", 3, x, 0);
        x.wire(2, 0, 0);
        isRefused("of what is totalled", ArithmeticException.class, x);
        x.wire(2, 0, 1);
        plans("of a total again", 3, x, 0);
    }

    // Only a wrong way can be refused while a plan is there: what else is refused needs a change of
    // the graph, and with a change the plan is gone.
    private static void planRefusedLeavesThePlan() {
        CHECKS.sentence("(Then the plan that there was, if any, stays.)");
        ArenaPlan x = keeping(made(given(1), given(1), of(ADD, 1, 0)), 2);
        giving(x, 0, 5);
        x.plan(1);
        x.run();
        CHECKS.refuses("plan(2)", IllegalArgumentException.class, () -> x.plan(2));
        CHECKS.answers("its order", 1, () -> x.order(0));
        CHECKS.answers("its costs", 3, () -> x.cost(2));
        CHECKS.answers("its peak", 3, () -> x.peak());
        CHECKS.answers("its least peak", 3, () -> x.least());
        allAbout("its places", x, PLACE, 1, 0, 2);
        CHECKS.answers("what was run", 5, () -> x.result(2, 0));
        CHECKS.refuses("plan(-1)", IllegalArgumentException.class, () -> x.plan(-1));
        CHECKS.answers("what was run", 5, () -> x.cell(1));
    }

    private static void orderOfSteps() {
        CHECKS.sentence("The node with the step k.");
        ArenaPlan x = made(of(ADD, 3, 2), of(NEGATE, 0), given(2), given(2), of(TOTAL, 3));
        hasOrder("way 0", x, 0, 2, 3, 0, 1, 4);
        hasOrder("way 1", x, 1, 3, 2, 0, 1, 4);
        for (int k = 0; k < 5; k++) {
            int step = k;
            CHECKS.answers("the step of the node with step " + k, k, () -> x.about(x.order(step), STEP));
        }
    }

    private static void orderOfNoStep() {
        CHECKS.sentence("order: IndexOutOfBoundsException when there is no such step.");
        ArenaPlan x = planned(two());
        for (int wrong : OUT_OF_TWO) {
            CHECKS.refuses("order(" + wrong + ")", IndexOutOfBoundsException.class, () -> x.order(wrong));
        }
        CHECKS.answers("the first", 0, () -> x.order(0));
        CHECKS.answers("the last", 1, () -> x.order(1));
        CHECKS.answers("the last of twelve", 11, () -> planned(twelveGiven()).order(11));
    }

    private static ArenaPlan twelveGiven() {
        ArenaPlan x = new ArenaPlan();
        for (int node = 0; node < MOST_NODES; node++) {
            x.make(GIVEN, 16 - node, 0);
        }
        return x;
    }

    private static void aboutParts() {
        CHECKS.sentence("part 0 its size, 1 its step, 2 the last step at which it is live, 3 its place, 4 its label");
        ArenaPlan x = planned(made(of(JOIN, 3, 2), of(NEGATE, 0), given(2), given(1), of(TOTAL, 3)));
        allAbout("size", x, 0, 3, 3, 2, 1, 1);
        allAbout("step", x, 1, 2, 3, 0, 1, 4);
        allAbout("last step", x, 2, 3, 3, 2, 4, 4);
        allAbout("place", x, 3, 0, 3, 3, 6, 0);
        allAbout("label", x, 4, 3, 3, 1, 1, 2);
    }

    private static void aboutLabelAlsoForWayZero() {
        CHECKS.sentence("4 its label (also for way 0)");
        for (int way = 0; way < 2; way++) {
            ArenaPlan x = made(given(1), of(NEGATE, 0), of(ADD, 0, 0), of(ADD, 2, 2));
            x.plan(way);
            allAbout("by way " + way, x, LABEL, 1, 2, 3, 4);
        }
    }

    private static void aboutNoNode() {
        CHECKS.sentence("about: IndexOutOfBoundsException when there is no such node");
        ArenaPlan x = planned(two());
        for (int wrong : OUT_OF_TWO) {
            for (int part = 0; part < 5; part++) {
                int asked = part;
                String what = "about(" + wrong + ", " + part + ")";
                CHECKS.refuses(what, IndexOutOfBoundsException.class, () -> x.about(wrong, asked));
            }
        }
        CHECKS.answers("the last", 1, () -> x.about(1, SIZE));
        CHECKS.answers("the last of twelve", 5, () -> planned(twelveGiven()).about(11, SIZE));
    }

    private static void aboutNoPart() {
        CHECKS.sentence("about: IndexOutOfBoundsException when there is no such [..] part");
        ArenaPlan x = planned(two());
        for (int wrong : new int[] {-1, 5, 6, Integer.MIN_VALUE, Integer.MAX_VALUE}) {
            for (int node = 0; node < 2; node++) {
                int asked = node;
                String what = "about(" + node + ", " + wrong + ")";
                CHECKS.refuses(what, IndexOutOfBoundsException.class, () -> x.about(asked, wrong));
            }
        }
        CHECKS.answers("the first part", 1, () -> x.about(0, 0));
        CHECKS.answers("the last part", 2, () -> x.about(1, 4));
    }

    private static void costOfSteps() {
        CHECKS.sentence("The COST of step k of the plan.");
        ArenaPlan x = made(given(1), given(2), of(NEGATE, 1), of(JOIN, 0, 2));
        x.plan(0);
        hasCosts("way 0", x, 1, 3, 5, 6);
        x.plan(1);
        hasCosts("way 1", x, 2, 4, 3, 6);
    }

    private static void costOfNoStep() {
        CHECKS.sentence("cost: IndexOutOfBoundsException when there is no such step.");
        ArenaPlan x = planned(two());
        for (int wrong : OUT_OF_TWO) {
            CHECKS.refuses("cost(" + wrong + ")", IndexOutOfBoundsException.class, () -> x.cost(wrong));
        }
        CHECKS.answers("the first", 1, () -> x.cost(0));
        CHECKS.answers("the last", 2, () -> x.cost(1));
        CHECKS.answers("the last of twelve", 5, () -> planned(twelveGiven()).cost(11));
    }

    private static void peakOfThePlan() {
        CHECKS.sentence("The PEAK of the plan's order.");
        ArenaPlan x = made(given(1), given(1), spread(16, 0), spread(16, 1), of(TOTAL, 2), of(TOTAL, 3), of(ADD, 4, 5));
        x.plan(0);
        CHECKS.answers("by numbers", 33, () -> x.peak());
        x.plan(1);
        CHECKS.answers("by labels", 18, () -> x.peak());
    }

    private static void leastOfOneOrder() {
        CHECKS.sentence("The least PEAK of any order that has dependencies before what depends on them");
        CHECKS.answers("one node", 16, () -> planned(made(given(16))).least());
        CHECKS.answers("nodes alone", 5, () -> planned(made(given(3), given(5), given(2))).least());
        CHECKS.answers("the same by all orders", 80, () -> planned(withForty(of(NEGATE, 3))).least());
        CHECKS.answers("against the numbers", 4, () -> planned(made(of(NEGATE, 1), of(NEGATE, 2), given(2))).least());
        CHECKS.answers("both sources", 6, () -> planned(made(given(1), given(2), of(JOIN, 0, 1))).least());
    }

    private static void leastBelowBothWays() {
        CHECKS.sentence("The least PEAK of any order");
        ArenaPlan one = made(given(3), of(JOIN, 0, 0), of(TOTAL, 1), of(NEGATE, 0));
        for (int way = 0; way < 2; way++) {
            one.plan(way);
            CHECKS.answers("its peak", 10, () -> one.peak());
            // By the order 0, 3, 1, 2.
            CHECKS.answers("below it", 9, () -> one.least());
        }
        ArenaPlan two = made(given(1), given(1), spread(16, 0), spread(16, 1), of(TOTAL, 2), of(TOTAL, 3), of(ADD, 4, 5));
        two.plan(0);
        CHECKS.answers("below the one by numbers", 18, () -> two.least());
        two.plan(1);
        CHECKS.answers("the one by labels", 18, () -> two.least());
        ArenaPlan three = made(given(1), spread(3, 0), given(1), spread(16, 2), of(TOTAL, 3), spread(3, 4), of(ADD, 1, 5));
        for (int way = 0; way < 2; way++) {
            three.plan(way);
            CHECKS.answers("its peak", 20, () -> three.peak());
            CHECKS.answers("below it", 17, () -> three.least());
        }
    }

    private static void leastWithKept() {
        CHECKS.sentence("The least PEAK [..] a KEPT one to the last step of all");
        int[][] nodes = {given(16), given(1), given(1)};
        CHECKS.answers("none kept", 16, () -> planned(made(nodes)).least());
        CHECKS.answers("a small one can come behind the great one", 16, () -> planned(keeping(made(nodes), 1)).least());
        CHECKS.answers("the great one can come last", 16, () -> planned(keeping(made(nodes), 0)).least());
        CHECKS.answers("all kept", 18, () -> planned(keeping(made(nodes), 0, 1, 2)).least());
        ArenaPlan twelve = keeping(twelveGiven(), 0, 2, 4, 6, 8, 10);
        twelve.plan(0);
        CHECKS.answers("twelve: peak", 66 + 5, () -> twelve.peak());
        CHECKS.answers("twelve: least", 66, () -> twelve.least());
    }

    private static void leastOfTheNodesOfThePlan() {
        CHECKS.sentence("(of the nodes of the plan)");
        ArenaPlan x = planned(made(given(4)));
        CHECKS.answers("least", 4, () -> x.least());
        CHECKS.answers("least again", 4, () -> x.least());
        x.make(GIVEN, 9, 0);
        CHECKS.refuses("without a plan", IllegalStateException.class, () -> x.least());
        x.plan(1);
        CHECKS.answers("of the new plan", 9, () -> x.least());
        x.keep(0, true);
        x.keep(1, true);
        x.plan(1);
        CHECKS.answers("of both kept", 13, () -> x.least());
    }

    private static void nothingWithoutAPlan() {
        needsAPlan("order", 0, x -> x.order(0));
        needsAPlan("about", 1, x -> x.about(0, SIZE));
        needsAPlan("cost", 1, x -> x.cost(0));
        needsAPlan("peak", 2, x -> x.peak());
        needsAPlan("least", 2, x -> x.least());
    }

    private static void needsAPlan(String call, int answer, Function<ArenaPlan, Object> question) {
        CHECKS.sentence(call + ": IllegalStateException when there is no plan");
        CHECKS.refuses("no node", IllegalStateException.class, () -> question.apply(new ArenaPlan()));
        CHECKS.refuses("not planned", IllegalStateException.class, () -> question.apply(two()));
        ArenaPlan x = two();
        CHECKS.refuses("a refused plan", IllegalArgumentException.class, () -> x.plan(2));
        CHECKS.refuses("after it", IllegalStateException.class, () -> question.apply(x));
        CHECKS.answers("planned", answer, () -> question.apply(planned(x)));
        x.keep(0, true);
        CHECKS.refuses("not planned any more", IllegalStateException.class, () -> question.apply(x));
        CHECKS.answers("planned again", answer, () -> question.apply(planned(x)));
    }
}
