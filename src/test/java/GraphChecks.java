/** What the tests of graphs have in common: graphs in one expression, questions in rows. */
abstract class GraphChecks {
    static final Checks CHECKS = new Checks();

    static final int GIVEN = 0;
    static final int NEGATE = 1;
    static final int ADD = 2;
    static final int MULTIPLY = 3;
    static final int JOIN = 4;
    static final int CUT = 5;
    static final int TOTAL = 6;
    static final int SPREAD = 7;
    /** How many inputs each operation has. */
    static final int[] INPUTS = {0, 1, 2, 2, 2, 1, 1, 1};
    static final int MOST_NODES = 12;

    /** Parts that `about` answers. */
    static final int SIZE = 0;
    static final int STEP = 1;
    static final int LAST = 2;
    static final int PLACE = 3;
    static final int LABEL = 4;

    /** Makes all nodes first and wires them then, so that a source may be a later node. */
    static ArenaPlan made(int[]... nodes) {
        ArenaPlan x = new ArenaPlan();
        for (int[] node : nodes) {
            x.make(node[0], node[1], node[2]);
        }
        for (int node = 0; node < nodes.length; node++) {
            for (int input = 3; input < nodes[node].length; input++) {
                x.wire(node, input - 3, nodes[node][input]);
            }
        }
        return x;
    }

    static int[] given(int size) {
        return new int[] {GIVEN, size, 0};
    }

    static int[] of(int operation, int... sources) {
        int[] node = new int[3 + sources.length];
        node[0] = operation;
        System.arraycopy(sources, 0, node, 3, sources.length);
        return node;
    }

    static int[] cut(int p, int q, int source) {
        return new int[] {CUT, p, q, source};
    }

    static int[] spread(int p, int source) {
        return new int[] {SPREAD, p, 0, source};
    }

    /** Nodes 0 to 3 are for the size of node 3, which is 40: of 16, 8, 32 and 40 ints. */
    static ArenaPlan withForty(int[]... more) {
        int[][] nodes = new int[4 + more.length][];
        nodes[0] = given(16);
        nodes[1] = given(8);
        nodes[2] = of(JOIN, 0, 0);
        nodes[3] = of(JOIN, 2, 1);
        System.arraycopy(more, 0, nodes, 4, more.length);
        return made(nodes);
    }

    static ArenaPlan keeping(ArenaPlan x, int... nodes) {
        for (int node : nodes) {
            x.keep(node, true);
        }
        return x;
    }

    static ArenaPlan giving(ArenaPlan x, int node, int... ints) {
        for (int i = 0; i < ints.length; i++) {
            x.give(node, i, ints[i]);
        }
        return x;
    }

    static ArenaPlan planned(ArenaPlan x) {
        x.plan(0);
        return x;
    }

    static ArenaPlan ran(ArenaPlan x) {
        planned(x).run();
        return x;
    }

    static void plans(String what, int arena, ArenaPlan x, int way) {
        CHECKS.answers(what + ": plan(" + way + ")", arena, () -> x.plan(way));
    }

    static void hasOrder(String what, ArenaPlan x, int way, int... order) {
        x.plan(way);
        for (int k = 0; k < order.length; k++) {
            int step = k;
            CHECKS.answers(what + ": order(" + k + ") of way " + way, order[k], () -> x.order(step));
        }
        CHECKS.refuses(what + ": order behind", IndexOutOfBoundsException.class, () -> x.order(order.length));
    }

    static void hasCosts(String what, ArenaPlan x, int... costs) {
        for (int k = 0; k < costs.length; k++) {
            int step = k;
            CHECKS.answers(what + ": cost(" + k + ")", costs[k], () -> x.cost(step));
        }
    }

    static void allAbout(String what, ArenaPlan x, int part, int... answers) {
        for (int node = 0; node < answers.length; node++) {
            int asked = node;
            CHECKS.answers(what + ": about(" + node + ", " + part + ")", answers[node], () -> x.about(asked, part));
        }
    }

    static void hasRing(String what, ArenaPlan x, int... ring) {
        for (int k = 0; k < ring.length; k++) {
            int asked = k;
            CHECKS.answers(what + ": ring(" + k + ")", ring[k], () -> x.ring(asked));
        }
        CHECKS.refuses(what + ": ring behind", java.util.NoSuchElementException.class, () -> x.ring(ring.length));
    }

    static void hasResult(String what, ArenaPlan x, int node, int... ints) {
        for (int i = 0; i < ints.length; i++) {
            int asked = i;
            CHECKS.answers(what + ": result(" + node + ", " + i + ")", ints[i], () -> x.result(node, asked));
        }
        CHECKS.refuses(what + ": result behind", IndexOutOfBoundsException.class, () -> x.result(node, ints.length));
    }
}
