/** What 'Terms' says of the ORDER of a plan, sentence by sentence: steps, way 0, labels and way 1. */
public final class OrderTest extends GraphChecks {
    public static void main(String[] args) {
        orderOfAllNodes();
        stepIsThePlaceInIt();
        leastReadyNode();
        labelOfGiven();
        labelOfOneInput();
        labelOfTwoInputs();
        labelsOfTwelve();
        greaterLabelFirst();
        firstInputOfEqualLabels();
        visitsOnlyWhatIsNotThere();
        thenTheNodeComes();
        visitsWhatNobodyNeeds();
        CHECKS.end();
    }

    /** Node 11 is a GIVEN, each other one depends on the one behind it. */
    private static ArenaPlan twelveFromTheLast(int operation) {
        int[][] nodes = new int[MOST_NODES][];
        for (int node = 0; node < MOST_NODES - 1; node++) {
            nodes[node] = INPUTS[operation] == 2 ? of(operation, node + 1, node + 1) : of(operation, node + 1);
        }
        nodes[MOST_NODES - 1] = given(1);
        return made(nodes);
    }

    private static ArenaPlan againstNumbers() {
        return made(of(ADD, 3, 2), of(NEGATE, 0), given(2), given(2), of(TOTAL, 3));
    }

    private static void orderOfAllNodes() {
        CHECKS.sentence("It has an ORDER of all nodes, dependencies before what depends on them");
        for (int way = 0; way < 2; way++) {
            hasOrder("one node", made(given(1)), way, 0);
            hasOrder("nodes alone", made(given(3), given(5), given(2)), way, 0, 1, 2);
            hasOrder("behind its source", made(of(NEGATE, 1), given(1)), way, 1, 0);
            hasOrder("behind both sources", made(of(ADD, 2, 1), given(1), of(NEGATE, 1)), way, 1, 2, 0);
            hasOrder("twelve from the last", twelveFromTheLast(NEGATE), way, 11, 10, 9, 8, 7, 6, 5, 4, 3, 2, 1, 0);
        }
    }

    private static void stepIsThePlaceInIt() {
        CHECKS.sentence("the place in it, 0, 1, .., is a node's STEP");
        ArenaPlan x = againstNumbers();
        x.plan(0);
        allAbout("way 0", x, STEP, 2, 3, 0, 1, 4);
        x.plan(1);
        allAbout("way 1", x, STEP, 2, 3, 1, 0, 4);
        ArenaPlan twelve = planned(twelveFromTheLast(NEGATE));
        allAbout("twelve", twelve, STEP, 11, 10, 9, 8, 7, 6, 5, 4, 3, 2, 1, 0);
    }

    private static void leastReadyNode() {
        CHECKS.sentence("WAY 0: again and again the least node comes that is not there, but all its dependencies are.");
        hasOrder("against the numbers", againstNumbers(), 0, 2, 3, 0, 1, 4);
        hasOrder("just ready before a greater one", made(of(NEGATE, 1), given(1), given(1)), 0, 1, 0, 2);
        hasOrder("a greater one that was ready long ago", made(given(1), of(NEGATE, 0), of(NEGATE, 1), given(1)), 0, 0, 1, 2, 3);
        hasOrder("one source there is not enough", made(given(1), of(ADD, 0, 3), of(ADD, 3, 0), given(1)), 0, 0, 3, 1, 2);
        hasOrder("not by labels", made(given(1), given(1), of(NEGATE, 1), of(ADD, 2, 0)), 0, 0, 1, 2, 3);
    }

    /** Nodes 0 to 4 have the labels 1 to 5, all of size 1. */
    private static ArenaPlan withLabels(int[]... more) {
        int[][] nodes = new int[5 + more.length][];
        nodes[0] = given(1);
        nodes[1] = of(NEGATE, 0);
        nodes[2] = of(ADD, 0, 0);
        nodes[3] = of(ADD, 2, 2);
        nodes[4] = of(ADD, 3, 3);
        System.arraycopy(more, 0, nodes, 5, more.length);
        return made(nodes);
    }

    private static void labelOfGiven() {
        CHECKS.sentence("the LABEL of a GIVEN is 1");
        allAbout("given", planned(made(given(1), given(16))), LABEL, 1, 1);
    }

    private static void labelOfOneInput() {
        CHECKS.sentence("of a node with one input 2, or that of its source if this is greater");
        int[] labels = {2, 2, 3, 4, 5};
        for (int source = 0; source < labels.length; source++) {
            ArenaPlan x = withLabels(of(NEGATE, source), cut(0, 1, source), of(TOTAL, source), spread(1, source));
            int label = labels[source];
            allAbout("of a source with label " + (source + 1), planned(x), LABEL, 1, 2, 3, 4, 5, label, label, label, label);
        }
    }

    private static void labelOfTwoInputs() {
        CHECKS.sentence("b not above a: the greatest of 3, a and b + 1");
        for (int operation : new int[] {ADD, MULTIPLY, JOIN}) {
            ArenaPlan small = withLabels(of(operation, 0, 0), of(operation, 1, 0), of(operation, 0, 1), of(operation, 1, 1),
                of(operation, 2, 1), of(operation, 1, 2), of(operation, 2, 0));
            allAbout("small ones", planned(small), LABEL, 1, 2, 3, 4, 5, 3, 3, 3, 3, 3, 3, 3);
            ArenaPlan great = withLabels(of(operation, 2, 2), of(operation, 3, 2), of(operation, 2, 3), of(operation, 3, 3),
                of(operation, 4, 3), of(operation, 3, 4), of(operation, 4, 4));
            allAbout("great ones", planned(great), LABEL, 1, 2, 3, 4, 5, 4, 4, 4, 5, 5, 5, 6);
            ArenaPlan apart = withLabels(of(operation, 4, 0), of(operation, 0, 4), of(operation, 1, 3), of(operation, 3, 0));
            allAbout("far apart", planned(apart), LABEL, 1, 2, 3, 4, 5, 5, 5, 4, 4);
        }
    }

    private static void labelsOfTwelve() {
        CHECKS.sentence("the LABEL [..] of a node with two");
        for (int way = 0; way < 2; way++) {
            ArenaPlan x = twelveFromTheLast(MULTIPLY);
            x.plan(way);
            allAbout("each one more", x, LABEL, 13, 12, 11, 10, 9, 8, 7, 6, 5, 4, 3, 1);
        }
    }

    private static void greaterLabelFirst() {
        CHECKS.sentence("its sources are visited, the one with the greater label first");
        hasOrder("the second", made(given(1), given(1), of(NEGATE, 1), of(ADD, 0, 2)), 1, 1, 2, 0, 3);
        hasOrder("the first", made(given(1), given(1), of(NEGATE, 1), of(ADD, 2, 0)), 1, 1, 2, 0, 3);
        int[][] threeAndTwo = {given(1), of(NEGATE, 0), given(1), of(ADD, 2, 2), of(JOIN, 1, 3)};
        hasOrder("three before two", made(threeAndTwo), 1, 2, 3, 0, 1, 4);
        int[][] inner = {given(1), given(1), of(NEGATE, 1), of(ADD, 0, 2), given(1), of(ADD, 4, 3)};
        hasOrder("at each visit", made(inner), 1, 1, 2, 0, 3, 4, 5);
    }

    private static void firstInputOfEqualLabels() {
        CHECKS.sentence("(of equal ones that of the first input)");
        hasOrder("the greater number first", made(given(1), given(1), of(ADD, 1, 0)), 1, 1, 0, 2);
        hasOrder("the lesser number first", made(given(1), given(1), of(ADD, 0, 1)), 1, 0, 1, 2);
        int[][] twos = {given(1), given(1), of(NEGATE, 0), of(TOTAL, 1), of(ADD, 3, 2)};
        hasOrder("equal ones of two", made(twos), 1, 1, 3, 0, 2, 4);
        hasOrder("not by sizes", made(given(1), given(9), of(JOIN, 0, 1)), 1, 0, 1, 2);
    }

    private static void visitsOnlyWhatIsNotThere() {
        CHECKS.sentence("To VISIT a node that is not in the order");
        hasOrder("one source twice", made(of(ADD, 1, 1), given(1)), 1, 1, 0);
        int[][] shared = {given(1), of(NEGATE, 0), of(ADD, 1, 0), of(ADD, 0, 2), of(NEGATE, 1)};
        hasOrder("shared sources", made(shared), 1, 0, 1, 2, 3, 4);
        hasOrder("the first is there", made(given(1), given(1), of(ADD, 0, 0), of(ADD, 0, 1)), 1, 0, 2, 1, 3);
        hasOrder("the second is there", made(given(1), given(1), of(ADD, 0, 0), of(ADD, 1, 0)), 1, 0, 2, 1, 3);
        hasOrder("both are there", made(given(1), given(1), of(ADD, 1, 0), of(ADD, 0, 1)), 1, 1, 0, 2, 3);
    }

    private static void thenTheNodeComes() {
        CHECKS.sentence("then the node comes");
        hasOrder("behind one source", made(of(NEGATE, 2), of(NEGATE, 0), given(1)), 1, 2, 0, 1);
        int[][] twoRows = {of(ADD, 1, 2), of(NEGATE, 3), of(NEGATE, 4), given(1), given(1)};
        hasOrder("behind the sources of both", made(twoRows), 1, 3, 1, 4, 2, 0);
        hasOrder("twelve", twelveFromTheLast(MULTIPLY), 1, 11, 10, 9, 8, 7, 6, 5, 4, 3, 2, 1, 0);
    }

    private static void visitsWhatNobodyNeeds() {
        CHECKS.sentence("All nodes that are nobody's dependency are visited, by their numbers.");
        hasOrder("a dependency waits", made(given(1), given(1), given(1), of(NEGATE, 0)), 1, 1, 2, 0, 3);
        hasOrder("not by labels", made(given(1), given(1), of(ADD, 0, 0)), 1, 1, 0, 2);
        hasOrder("by numbers", made(given(1), of(TOTAL, 2), given(1), of(NEGATE, 0), given(1)), 1, 2, 1, 0, 3, 4);
        hasOrder("a second input is a dependency", made(given(1), given(1), of(JOIN, 1, 0)), 1, 1, 0, 2);
    }
}
