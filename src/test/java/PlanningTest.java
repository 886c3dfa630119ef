import java.util.NoSuchElementException;

/** Promises 8 to 13: plan, order, about, cost, peak, least. */
public final class PlanningTest {
    private static final Checks CHECKS = new Checks();

    private static final int GIVEN = 0;
    private static final int NEGATE = 1;
    private static final int ADD = 2;
    private static final int MULTIPLY = 3;
    private static final int JOIN = 4;
    private static final int CUT = 5;
    private static final int TOTAL = 6;
    private static final int SPREAD = 7;

    public static void main(String[] args) {
        planRefusals();
        planRefusesInOrder();
        planOfUnusedNodes();
        sizesOfPairs(ADD);
        sizesOfPairs(MULTIPLY);
        sizesOfJoin();
        sizesOfCut();
        sizesOfTheOthers();
        wayByNumbers();
        wayByLabels();
        wayByLabelsOfRoots();
        labels();
        liveAndKept();
        costsOfAStepAlone();
        placesGreatestFirst();
        placesInGaps();
        arenaAbovePeak();
        leastBelowBothWays();
        leastWithKept();
        leastAfterEachPlan();
        edgesOfQuestions();
        CHECKS.end();
    }

    private static ArenaPlan made(int[]... nodes) {
        ArenaPlan x = new ArenaPlan();
        for (int[] node : nodes) {
            x.make(node[0], node[1], node[2]);
        }
        for (int node = 0; node < nodes.length; node++) {
            for (int input = 3; input < nodes[node].length; input++) {
                x.wire(node, input - 3, nodes[node][input]);
            }
        }
        return x;
    }

    private static int[] given(int size) {
        return new int[] {GIVEN, size, 0};
    }

    private static int[] of(int operation, int... sources) {
        int[] node = new int[3 + sources.length];
        node[0] = operation;
        System.arraycopy(sources, 0, node, 3, sources.length);
        return node;
    }

    private static int[] cut(int p, int q, int source) {
        return new int[] {CUT, p, q, source};
    }

    private static int[] spread(int p, int source) {
        return new int[] {SPREAD, p, 0, source};
    }

    private static void plans(String what, int arena, ArenaPlan x, int way) {
        CHECKS.answers(what + ": plan(" + way + ")", arena, () -> x.plan(way));
    }

    private static void hasOrder(String what, ArenaPlan x, int... order) {
        CHECKS.refuses(what + ": order(-1)", IndexOutOfBoundsException.class, () -> x.order(-1));
        for (int k = 0; k < order.length; k++) {
            int step = k;
            CHECKS.answers(what + ": order(" + k + ")", order[k], () -> x.order(step));
            CHECKS.answers(what + ": step of " + order[k], k, () -> x.about(order[step], 1));
        }
        CHECKS.refuses(what + ": order behind", IndexOutOfBoundsException.class, () -> x.order(order.length));
    }

    private static void hasCosts(String what, ArenaPlan x, int... costs) {
        int peak = 0;
        CHECKS.refuses(what + ": cost(-1)", IndexOutOfBoundsException.class, () -> x.cost(-1));
        for (int k = 0; k < costs.length; k++) {
            int step = k;
            CHECKS.answers(what + ": cost(" + k + ")", costs[k], () -> x.cost(step));
            peak = Math.max(peak, costs[k]);
        }
        CHECKS.refuses(what + ": cost behind", IndexOutOfBoundsException.class, () -> x.cost(costs.length));
        CHECKS.answers(what + ": peak", peak, () -> x.peak());
    }

    private static void allAbout(String what, ArenaPlan x, int part, int... answers) {
        for (int node = 0; node < answers.length; node++) {
            int asked = node;
            CHECKS.answers(what + ": about(" + node + ", " + part + ")", answers[node], () -> x.about(asked, part));
        }
    }

    private static void planRefusals() {
        ArenaPlan x = made(given(1), of(NEGATE, 0));
        for (int wrong : new int[] {-1, 2, Integer.MIN_VALUE, Integer.MAX_VALUE}) {
            CHECKS.refuses("plan(" + wrong + ")", IllegalArgumentException.class, () -> x.plan(wrong));
        }
        CHECKS.refuses("no plan by a refused one", IllegalStateException.class, () -> x.peak());
        for (int way = 0; way < 2; way++) {
            int tried = way;
            CHECKS.refuses("no node", NoSuchElementException.class, () -> new ArenaPlan().plan(tried));
            CHECKS.refuses("not wired", NoSuchElementException.class, () -> made(of(NEGATE)).plan(tried));
            CHECKS.refuses("second not wired", NoSuchElementException.class, () -> made(of(ADD, 0), given(1)).plan(tried));
            CHECKS.refuses("ring", IllegalStateException.class, () -> made(of(NEGATE, 0)).plan(tried));
            CHECKS.refuses("sizes", ArithmeticException.class, () -> made(given(1), given(2), of(ADD, 0, 1)).plan(tried));
        }
    }

    private static void planRefusesInOrder() {
        int[][] allWrong = {of(NEGATE, 0), of(NEGATE), given(1), given(2), of(ADD, 2, 3)};
        CHECKS.refuses("all wrong", IllegalArgumentException.class, () -> made(allWrong).plan(2));
        CHECKS.refuses("no node, no way", IllegalArgumentException.class, () -> new ArenaPlan().plan(-1));
        CHECKS.refuses("the rest wrong", NoSuchElementException.class, () -> made(allWrong).plan(0));
        ArenaPlan x = made(allWrong);
        x.wire(1, 0, 2);
        CHECKS.refuses("ring and sizes", IllegalStateException.class, () -> x.plan(1));
        x.wire(0, 0, 1);
        CHECKS.refuses("sizes", ArithmeticException.class, () -> x.plan(1));
        x.wire(4, 0, 3);
        plans("put right", 4, x, 1);
    }

    /** All nodes are in a plan, and all can spoil it. */
    private static void planOfUnusedNodes() {
        ArenaPlan x = made(given(3), given(5), given(2));
        plans("nodes alone", 5, x, 0);
        hasOrder("nodes alone", x, 0, 1, 2);
        hasCosts("nodes alone", x, 3, 5, 2);
        x.make(NEGATE, 0, 0);
        CHECKS.refuses("one that nobody needs is not wired", NoSuchElementException.class, () -> x.plan(0));
    }

    private static void sizesOfPairs(int operation) {
        plans("same sizes", 6, made(given(2), given(2), of(operation, 0, 1)), 0);
        plans("same source", 4, made(given(2), of(operation, 0, 0)), 0);
        CHECKS.refuses("second greater", ArithmeticException.class, () -> made(given(2), given(3), of(operation, 0, 1)).plan(0));
        CHECKS.refuses("first greater", ArithmeticException.class, () -> made(given(2), given(1), of(operation, 0, 1)).plan(0));
    }

    private static void sizesOfJoin() {
        ArenaPlan forty = made(given(16), given(8), of(JOIN, 0, 0), of(JOIN, 2, 1), of(NEGATE, 3));
        plans("forty", 80, forty, 0);
        allAbout("forty", forty, 0, 16, 8, 32, 40, 40);
        ArenaPlan more = made(given(16), given(9), of(JOIN, 0, 0), of(JOIN, 2, 1));
        CHECKS.refuses("forty-one", ArithmeticException.class, () -> more.plan(0));
    }

    private static void sizesOfCut() {
        ArenaPlan x = made(given(16), given(8), of(JOIN, 0, 0), of(JOIN, 2, 1), cut(39, 1, 3), cut(24, 16, 3), cut(0, 16, 0));
        CHECKS.answers("cuts to the end", 96, () -> x.plan(0));
        allAbout("cuts", x, 0, 16, 8, 32, 40, 1, 16, 16);
        CHECKS.refuses("one too far", ArithmeticException.class, () -> made(given(16), cut(1, 16, 0)).plan(0));
        CHECKS.refuses("one behind", ArithmeticException.class, () -> made(given(3), cut(3, 1, 0)).plan(0));
        plans("the last", 4, made(given(3), cut(2, 1, 0)), 0);
    }

    private static void sizesOfTheOthers() {
        ArenaPlan x = made(given(7), of(NEGATE, 0), of(TOTAL, 1), spread(16, 2), of(NEGATE, 3));
        x.plan(0);
        allAbout("sizes", x, 0, 7, 7, 1, 16, 16);
        CHECKS.refuses("SPREAD of two", ArithmeticException.class, () -> made(given(2), spread(1, 0)).plan(0));
        plans("TOTAL of one", 2, made(given(1), of(TOTAL, 0)), 0);
    }

    private static ArenaPlan againstNumbers() {
        return made(of(ADD, 3, 2), of(NEGATE, 0), given(2), given(2), of(TOTAL, 3));
    }

    private static void wayByNumbers() {
        ArenaPlan x = againstNumbers();
        plans("by numbers", 6, x, 0);
        hasOrder("by numbers", x, 2, 3, 0, 1, 4);
        allAbout("by numbers, sizes", x, 0, 2, 2, 2, 2, 1);
        allAbout("by numbers, last steps", x, 2, 3, 3, 2, 4, 4);
        allAbout("by numbers, places", x, 3, 4, 0, 0, 2, 0);
        allAbout("by numbers, labels", x, 4, 3, 3, 1, 1, 2);
        hasCosts("by numbers", x, 2, 4, 6, 6, 3);
    }

    private static void wayByLabels() {
        ArenaPlan x = againstNumbers();
        plans("by labels", 6, x, 1);
        hasOrder("by labels, equal ones", x, 3, 2, 0, 1, 4);
        ArenaPlan second = made(given(1), given(1), of(NEGATE, 1), of(ADD, 0, 2));
        second.plan(1);
        hasOrder("greater label second", second, 1, 2, 0, 3);
        ArenaPlan first = made(given(1), given(1), of(NEGATE, 1), of(ADD, 2, 0));
        first.plan(1);
        hasOrder("greater label first", first, 1, 2, 0, 3);
        first.plan(0);
        hasOrder("the same by numbers", first, 0, 1, 2, 3);
    }

    /** Only what is nobody's dependency is visited of itself. */
    private static void wayByLabelsOfRoots() {
        ArenaPlan x = made(given(1), of(TOTAL, 2), given(1), of(NEGATE, 0), given(1));
        x.plan(1);
        hasOrder("roots by numbers", x, 2, 1, 0, 3, 4);
        ArenaPlan shared = made(given(1), of(NEGATE, 0), of(ADD, 1, 0), of(ADD, 0, 2), of(NEGATE, 1));
        shared.plan(1);
        hasOrder("shared sources come once", shared, 0, 1, 2, 3, 4);
    }

    private static void labels() {
        ArenaPlan x = made(given(1), of(NEGATE, 0), of(NEGATE, 1), of(ADD, 0, 0), of(ADD, 3, 3), of(ADD, 0, 4),
            of(ADD, 4, 3), of(NEGATE, 4), of(ADD, 4, 5), of(ADD, 8, 4), of(MULTIPLY, 9, 8), of(TOTAL, 10));
        x.plan(0);
        allAbout("labels by way 0", x, 4, 1, 2, 2, 3, 4, 4, 4, 4, 5, 5, 6, 6);
        x.plan(1);
        allAbout("labels by way 1", x, 4, 1, 2, 2, 3, 4, 4, 4, 4, 5, 5, 6, 6);
        ArenaPlan greaterFirst = made(given(1), of(ADD, 0, 0), of(ADD, 1, 1), of(JOIN, 2, 0));
        greaterFirst.plan(0);
        allAbout("the greater label first", greaterFirst, 4, 1, 3, 4, 4);
        ArenaPlan ones = made(given(1), of(TOTAL, 0), spread(2, 1), cut(0, 1, 2), of(JOIN, 1, 3));
        ones.plan(0);
        allAbout("labels of one input", ones, 4, 1, 2, 2, 2, 3);
    }

    private static void liveAndKept() {
        ArenaPlan x = made(given(4), of(NEGATE, 0), of(TOTAL, 1), given(2), of(TOTAL, 3));
        plans("none kept", 8, x, 0);
        allAbout("none kept", x, 2, 1, 2, 2, 4, 4);
        hasCosts("none kept", x, 4, 8, 5, 2, 3);
        x.keep(2, true);
        plans("kept", 8, x, 0);
        allAbout("kept", x, 2, 1, 2, 4, 4, 4);
        hasCosts("kept", x, 4, 8, 5, 3, 4);
        x.keep(0, true);
        plans("two kept", 9, x, 0);
        allAbout("two kept", x, 2, 4, 2, 4, 4, 4);
        hasCosts("two kept", x, 4, 8, 9, 7, 8);
        x.keep(0, false);
        x.keep(2, false);
        plans("kept no more", 8, x, 0);
    }

    /** A node that nothing depends on is live at its own step alone. */
    private static void costsOfAStepAlone() {
        ArenaPlan x = made(given(1), of(NEGATE, 0), given(16), of(NEGATE, 1));
        plans("a step alone", 17, x, 0);
        allAbout("a step alone", x, 2, 1, 3, 2, 3);
        hasCosts("a step alone", x, 1, 2, 17, 2);
    }

    private static void placesGreatestFirst() {
        ArenaPlan x = made(given(2), given(5), of(JOIN, 0, 1), given(5), of(JOIN, 3, 0));
        plans("greatest first", 14, x, 0);
        hasOrder("greatest first", x, 0, 1, 2, 3, 4);
        // By sizes 2, 4 (both 7), 1, 3 (both 5), 0: 2 is live at step 2, 4 at step 4.
        allAbout("greatest first", x, 3, 12, 7, 0, 7, 0);
        CHECKS.answers("greatest first: peak", 14, () -> x.peak());
    }

    private static void placesInGaps() {
        ArenaPlan x = made(given(3), given(3), of(TOTAL, 0), given(3), of(ADD, 3, 1), of(TOTAL, 4), given(2));
        x.keep(5, true);
        x.keep(2, true);
        plans("gaps", 10, x, 0);
        allAbout("gaps, last steps", x, 2, 2, 4, 6, 4, 5, 6, 6);
        // By steps 0, 1, 3, 4 of size 3, then 6, then 2 and 5.
        allAbout("gaps, places", x, 3, 0, 3, 9, 0, 6, 2, 0);
    }

    private static void arenaAbovePeak() {
        ArenaPlan x = made(given(1), given(3), of(TOTAL, 0), spread(3, 2));
        plans("above the peak", 5, x, 0);
        // 1 and 3 have the same cells; 0 meets 1, 2 meets 3, and at step 2 they meet each other.
        allAbout("above the peak", x, 3, 3, 0, 4, 0);
        hasCosts("above the peak", x, 1, 4, 2, 4);
    }

    private static void leastBelowBothWays() {
        ArenaPlan x = made(given(3), of(JOIN, 0, 0), of(TOTAL, 1), of(NEGATE, 0));
        for (int way = 0; way < 2; way++) {
            plans("below", 10, x, way);
            hasCosts("below", x, 3, 9, 10, 6);
            // By the order 0, 3, 1, 2.
            CHECKS.answers("below: least", 9, () -> x.least());
        }
        ArenaPlan two = made(given(1), given(1), spread(16, 0), spread(16, 1), of(TOTAL, 2), of(TOTAL, 3), of(ADD, 4, 5));
        two.plan(0);
        CHECKS.answers("two: by numbers", 33, () -> two.peak());
        CHECKS.answers("two: least by numbers", 18, () -> two.least());
        two.plan(1);
        CHECKS.answers("two: by labels", 18, () -> two.peak());
        CHECKS.answers("two: least by labels", 18, () -> two.least());
        ArenaPlan three = made(given(1), spread(3, 0), given(1), spread(16, 2), of(TOTAL, 3), spread(3, 4), of(ADD, 1, 5));
        three.plan(0);
        CHECKS.answers("three: by numbers", 20, () -> three.peak());
        three.plan(1);
        CHECKS.answers("three: by labels", 20, () -> three.peak());
        CHECKS.answers("three: least", 17, () -> three.least());
    }

    private static void leastWithKept() {
        ArenaPlan x = made(given(16), given(1), given(1));
        x.plan(0);
        CHECKS.answers("none kept", 16, () -> x.least());
        x.keep(1, true);
        x.plan(0);
        CHECKS.answers("a small one kept", 16, () -> x.least());
        x.keep(2, true);
        x.keep(0, true);
        x.plan(0);
        CHECKS.answers("all kept", 18, () -> x.least());
        ArenaPlan twelve = new ArenaPlan();
        for (int node = 0; node < 12; node++) {
            twelve.make(GIVEN, 16 - node, 0);
            twelve.keep(node, node % 2 == 0);
        }
        twelve.plan(0);
        CHECKS.answers("twelve: peak", 66 + 5, () -> twelve.peak());
        CHECKS.answers("twelve: least", 66, () -> twelve.least());
    }

    private static void leastAfterEachPlan() {
        ArenaPlan x = made(given(4));
        x.plan(0);
        CHECKS.answers("least", 4, () -> x.least());
        CHECKS.answers("least again", 4, () -> x.least());
        x.make(GIVEN, 9, 0);
        CHECKS.refuses("least without a plan", IllegalStateException.class, () -> x.least());
        x.plan(1);
        CHECKS.answers("least of the new plan", 9, () -> x.least());
    }

    private static void edgesOfQuestions() {
        ArenaPlan x = made(given(1), of(NEGATE, 0));
        CHECKS.refuses("order, no plan", IllegalStateException.class, () -> x.order(-1));
        CHECKS.refuses("about, no plan", IllegalStateException.class, () -> x.about(-1, -1));
        CHECKS.refuses("cost, no plan", IllegalStateException.class, () -> x.cost(-1));
        CHECKS.refuses("peak, no plan", IllegalStateException.class, () -> x.peak());
        x.plan(0);
        int[][] wrong = {{-1, 0}, {2, 0}, {0, -1}, {0, 5}, {1, 6}, {Integer.MIN_VALUE, 0}, {Integer.MAX_VALUE, 0}};
        for (int[] asked : wrong) {
            CHECKS.refuses("about", IndexOutOfBoundsException.class, () -> x.about(asked[0], asked[1]));
        }
        for (int asked : new int[] {-1, 2, 12, Integer.MIN_VALUE, Integer.MAX_VALUE}) {
            CHECKS.refuses("order", IndexOutOfBoundsException.class, () -> x.order(asked));
            CHECKS.refuses("cost", IndexOutOfBoundsException.class, () -> x.cost(asked));
        }
    }
}
