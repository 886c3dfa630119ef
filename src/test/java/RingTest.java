import java.util.NoSuchElementException;

/** THE RING of 'Terms' and promise 7, ring, sentence by sentence. */
public final class RingTest extends GraphChecks {
    public static void main(String[] args) {
        inARing();
        beginsWithTheLeast();
        goesTheFewestSteps();
        goesTheFewestOfManySteps();
        takesTheFirstInput();
        endsAtTheBeginning();
        hasNoOtherNodes();
        isNone();
        inputsThatAreNotWired();
        isThereAfterEachChange();
        CHECKS.end();
    }

    /** GIVEN, NEGATE or ADD, by the number of their sources. */
    private static ArenaPlan graph(int[]... sources) {
        int[][] nodes = new int[sources.length][];
        for (int node = 0; node < sources.length; node++) {
            nodes[node] = sources[node].length == 0 ? given(1) : of(sources[node].length, sources[node]);
        }
        return made(nodes);
    }

    private static int[] from(int... sources) {
        return sources;
    }

    private static void inARing() {
        CHECKS.sentence("can be come to from themselves by going from nodes to their dependencies, one step at least");
        hasRing("a node alone", graph(from()));
        hasRing("its own source", graph(from(), from(1)), 1);
        hasRing("its own second source", graph(from(), from(0, 1)), 1);
        hasRing("both sources itself", graph(from(0, 0)), 0);
        hasRing("two", graph(from(1), from(0)), 0, 1);
        hasRing("by second inputs", graph(from(2, 1), from(2, 0), from()), 0, 1);
        hasRing("no ring", graph(from(), from(0), from(0, 1)));
        hasRing("shared sources", graph(from(1, 2), from(3), from(3), from()));
    }

    private static void beginsWithTheLeast() {
        CHECKS.sentence("THE RING begins with the least node that is in one");
        hasRing("a node that leads to a ring is in none", graph(from(1), from(2), from(1)), 1, 2);
        hasRing("nor one that a ring leads to", graph(from(), from(0, 2), from(1)), 1, 2);
        hasRing("nor one between two rings", graph(from(3), from(1), from(1, 3), from(0)), 0, 3);
        hasRing("of two rings", graph(from(3), from(2), from(1), from(0)), 0, 3);
        hasRing("of two rings", graph(from(4), from(2), from(1), from(4), from(3)), 1, 2);
        hasRing("the last node alone", graph(from(), from(), from(2)), 2);
    }

    private static void goesTheFewestSteps() {
        CHECKS.sentence("that one of the dependencies from which the beginning can be come to in the fewest steps");
        hasRing("fewer second", graph(from(1), from(2, 3), from(4), from(0), from(0)), 0, 1, 3);
        hasRing("fewer first", graph(from(1), from(3, 2), from(4), from(0), from(0)), 0, 1, 3);
        hasRing("past what leads nowhere", graph(from(1), from(2, 3), from(), from(4), from(0)), 0, 1, 3, 4);
        hasRing("past another ring", graph(from(1), from(2, 3), from(2), from(4), from(0)), 0, 1, 3, 4);
        hasRing("itself is not fewer", graph(from(1), from(1, 2), from(3), from(0)), 0, 1, 2, 3);
        hasRing("itself, not the way round", graph(from(1, 0), from(0)), 0);
        hasRing("straight back", graph(from(1), from(2, 0), from(0)), 0, 1);
        hasRing("fewer at the beginning", graph(from(1, 2), from(2), from(0)), 0, 2);
    }

    /** Nodes 2 to 11 one after the other and then 0: there are ten steps from 2 to 0. */
    private static ArenaPlan longWay(int[] beginning, int[] one) {
        int[][] sources = new int[MOST_NODES][];
        sources[0] = beginning;
        sources[1] = one;
        for (int node = 2; node < MOST_NODES; node++) {
            sources[node] = from((node + 1) % MOST_NODES);
        }
        return graph(sources);
    }

    private static void goesTheFewestOfManySteps() {
        CHECKS.sentence("in the fewest steps");
        int[] ring = {0, 2, 3, 4, 5, 6, 7, 8, 9, 10, 11};
        hasRing("ten, not eleven", longWay(from(1, 2), from(2)), ring);
        hasRing("ten, not eleven, by the first input", longWay(from(2, 1), from(2)), ring);
        hasRing("ten, not nowhere", longWay(from(1, 2), from()), ring);
        hasRing("ten, not nowhere, by the first input", longWay(from(2, 1), from()), ring);
        hasRing("ten, not round and round", longWay(from(1, 2), from(1)), ring);
        hasRing("ten by both, the first first", longWay(from(2, 1), from(3)), ring);
        hasRing("ten by both, the other first", longWay(from(1, 2), from(3)), 0, 1, 3, 4, 5, 6, 7, 8, 9, 10, 11);
        hasRing("nine by one", longWay(from(2, 1), from(4)), 0, 1, 4, 5, 6, 7, 8, 9, 10, 11);
    }

    private static void takesTheFirstInput() {
        CHECKS.sentence("(of several the one of the first input)");
        hasRing("the lesser first", graph(from(1), from(2, 3), from(0), from(0)), 0, 1, 2);
        hasRing("the greater first", graph(from(1), from(3, 2), from(0), from(0)), 0, 1, 3);
        hasRing("at the beginning", graph(from(2, 1), from(0), from(0)), 0, 2);
        hasRing("both inputs the same", graph(from(1, 1), from(0, 0)), 0, 1);
    }

    private static void endsAtTheBeginning() {
        CHECKS.sentence("until the beginning would come again");
        hasRing("one", graph(from(0)), 0);
        hasRing("against the numbers", graph(from(3), from(0), from(1), from(2)), 0, 3, 2, 1);
        int[][] twelve = new int[MOST_NODES][];
        for (int node = 0; node < MOST_NODES; node++) {
            twelve[node] = from((node + 5) % MOST_NODES);
        }
        hasRing("of twelve", graph(twelve), 0, 5, 10, 3, 8, 1, 6, 11, 4, 9, 2, 7);
        for (int node = 0; node < MOST_NODES; node++) {
            twelve[node] = from((node + 1) % MOST_NODES, node == 0 ? 1 : node);
        }
        hasRing("of twelve that are most their own sources, too", graph(twelve), 0, 1, 2, 3, 4, 5, 6, 7, 8, 9, 10, 11);
    }

    private static void hasNoOtherNodes() {
        CHECKS.sentence("NoSuchElementException when there is none");
        ArenaPlan x = graph(from(1), from(2), from(0), from(0));
        for (int wrong : new int[] {-1, 3, 4, 11, 12, Integer.MIN_VALUE, Integer.MAX_VALUE}) {
            CHECKS.refuses("ring(" + wrong + ") of three", NoSuchElementException.class, () -> x.ring(wrong));
        }
        CHECKS.answers("ring(0)", 0, () -> x.ring(0));
        CHECKS.answers("ring(2)", 2, () -> x.ring(2));
    }

    private static void isNone() {
        CHECKS.sentence("no node is in a ring");
        for (int k : new int[] {-1, 0, 1, Integer.MIN_VALUE, Integer.MAX_VALUE}) {
            CHECKS.refuses("no node: ring(" + k + ")", NoSuchElementException.class, () -> new ArenaPlan().ring(k));
            CHECKS.refuses("no ring: ring(" + k + ")", NoSuchElementException.class, () -> graph(from(), from(0)).ring(k));
        }
    }

    private static void inputsThatAreNotWired() {
        CHECKS.sentence("(inputs that are not wired lead nowhere)");
        hasRing("the first is not", graph(from(-1, 1), from(0)), 0, 1);
        hasRing("the second is not", graph(from(1, -1), from(0, -1)), 0, 1);
        hasRing("others are not", graph(from(-1), from(-1, -1), from(2, -1)), 2);
        hasRing("none is", graph(from(-1), from(-1, -1)));
        ArenaPlan x = graph(from(-1, 1), from(0, -1), from(-1));
        CHECKS.refuses("plan", NoSuchElementException.class, () -> x.plan(0));
        hasRing("after a refused plan", x, 0, 1);
    }

    private static void isThereAfterEachChange() {
        CHECKS.sentence("Node k of THE RING (0 its beginning).");
        ArenaPlan x = graph(from(1), from(0), from(2));
        hasRing("two", x, 0, 1);
        x.wire(1, 0, -1);
        hasRing("the first ring opened", x, 2);
        x.wire(2, 0, 1);
        hasRing("the second opened, too", x);
        x.make(GIVEN, 1, 0);
        x.wire(1, 0, 3);
        CHECKS.answers("plan", 2, () -> x.plan(0));
        hasRing("planned", x);
        CHECKS.answers("the plan stays", 3, () -> x.order(0));
        x.wire(1, 0, 2);
        hasRing("closed again", x, 1, 2);
    }
}
