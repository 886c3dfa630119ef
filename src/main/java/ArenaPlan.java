import java.util.Arrays;
import java.util.NoSuchElementException;

/**
 * A graph of operations on rows of ints is put in order, every row gets its place in one row of
 * cells for the time in which it is needed, and the operations are done in these cells.
 *
 * <p>All rows are made with the object and used again, so that no call takes room of its own.
 */
public final class ArenaPlan {
    private static final int MOST_NODES = 12;
    private static final int MOST_INPUTS = 2;
    private static final int MOST_JOINED = 40;
    /** The greatest number of ints that a GIVEN, a SPREAD or a CUT may be made with. */
    private static final int MOST_MADE = 16;

    /** Stands for a node where there is none. */
    private static final int NONE = -1;

    private static final int GIVEN = 0;
    private static final int NEGATE = 1;
    private static final int ADD = 2;
    private static final int MULTIPLY = 3;
    private static final int JOIN = 4;
    private static final int CUT = 5;
    private static final int TOTAL = 6;
    private static final int SPREAD = 7;
    private static final int[] INPUTS = {0, 1, 2, 2, 2, 1, 1, 1};

    private static final int BY_NUMBERS = 0;
    private static final int BY_LABELS = 1;

    private static final int PARTS = 5;
    /** No order has this peak, as no size is 0. */
    private static final int NOT_SEARCHED = 0;

    private final Graph graph;
    private final Rings rings;
    private final Plan plan;
    private final Places places;
    private final Cells cells;
    private final LeastPeak search;
    private boolean planned;
    private boolean ran;
    private int leastPeak;

    public ArenaPlan() {
        graph = new Graph();
        rings = new Rings(graph);
        plan = new Plan(graph);
        places = new Places(plan);
        cells = new Cells(places);
        search = new LeastPeak(plan);
    }

    public int make(int operation, int p, int q) throws IllegalArgumentException, UnsupportedOperationException {
        if (!canBeMade(operation, p, q)) {
            throw new IllegalArgumentException("no such operation, p or q");
        }
        if (graph.count == MOST_NODES) {
            throw new UnsupportedOperationException("there are twelve nodes");
        }
        forgetPlan();
        return graph.add(operation, p, q);
    }

    public boolean give(int node, int i, int v) {
        if (!graph.has(node) || graph.operation[node] != GIVEN || !isWithin(i, graph.p[node])) {
            return false;
        }
        graph.given[node][i] = v;
        return true;
    }

    public boolean wire(int node, int input, int source) {
        if (!graph.has(node) || !isWithin(input, graph.inputs(node))) {
            return false;
        }
        if (source != NONE && !graph.has(source)) {
            return false;
        }
        graph.source[node][input] = source;
        forgetPlan();
        return true;
    }

    public boolean keep(int node, boolean on) {
        if (!graph.has(node) || graph.kept[node] == on) {
            return false;
        }
        graph.kept[node] = on;
        forgetPlan();
        return true;
    }

    public int nodes() {
        return graph.count;
    }

    public int ring(int k) throws NoSuchElementException {
        rings.find();
        if (!isWithin(k, rings.length)) {
            throw new NoSuchElementException("the ring has no such node");
        }
        return rings.member[k];
    }

    // When a plan stands, nothing in the graph has changed since it was made: then only a wrong way
    // is refused, and the rows of the plan can be written while sizes are still being looked at.
    public int plan(int way) throws IllegalArgumentException, NoSuchElementException, IllegalStateException, ArithmeticException {
        if (way != BY_NUMBERS && way != BY_LABELS) {
            throw new IllegalArgumentException("no such way");
        }
        if (graph.count == 0 || !graph.isWired()) {
            throw new NoSuchElementException("no node, or an input is not wired");
        }
        rings.find();
        if (rings.length > 0) {
            throw new IllegalStateException("a node is in a ring");
        }
        if (!plan.measure()) {
            throw new ArithmeticException("sizes do not fit");
        }
        plan.arrange(way);
        places.assign();
        planned = true;
        ran = false;
        leastPeak = NOT_SEARCHED;
        return places.arena;
    }

    public int order(int k) throws IllegalStateException, IndexOutOfBoundsException {
        needPlan();
        needWithin(k, graph.count);
        return plan.sequence[k];
    }

    public int about(int node, int part) throws IllegalStateException, IndexOutOfBoundsException {
        needPlan();
        needWithin(node, graph.count);
        needWithin(part, PARTS);
        switch (part) {
            case 0:
                return plan.size[node];
            case 1:
                return plan.step[node];
            case 2:
                return plan.last[node];
            case 3:
                return places.start[node];
            default:
                return plan.label[node];
        }
    }

    public int cost(int k) throws IllegalStateException, IndexOutOfBoundsException {
        needPlan();
        needWithin(k, graph.count);
        return plan.costOf[k];
    }

    public int peak() throws IllegalStateException {
        needPlan();
        return plan.greatestCost;
    }

    public int least() throws IllegalStateException {
        needPlan();
        if (leastPeak == NOT_SEARCHED) {
            leastPeak = search.find();
        }
        return leastPeak;
    }

    public int run() throws IllegalStateException {
        needPlan();
        ran = true;
        return cells.work();
    }

    public int cell(int i) throws IllegalStateException, IndexOutOfBoundsException {
        needRun();
        needWithin(i, places.arena);
        return cells.value[i];
    }

    // A kept node is live to the end, so that after a run its cells still hold its value.
    public int result(int node, int i) throws IllegalStateException, NoSuchElementException, IndexOutOfBoundsException {
        needRun();
        if (!graph.has(node) || !graph.kept[node]) {
            throw new NoSuchElementException("no such node is kept");
        }
        needWithin(i, plan.size[node]);
        return cells.value[places.start[node] + i];
    }

    private void forgetPlan() {
        planned = false;
    }

    private void needPlan() {
        if (!planned) {
            throw new IllegalStateException("there is no plan");
        }
    }

    private void needRun() {
        needPlan();
        if (!ran) {
            throw new IllegalStateException("the plan was not run");
        }
    }

    private static void needWithin(int index, int length) {
        if (!isWithin(index, length)) {
            throw new IndexOutOfBoundsException("no such index");
        }
    }

    private static boolean isWithin(int index, int length) {
        return index >= 0 && index < length;
    }

    private static boolean canBeMade(int operation, int p, int q) {
        switch (operation) {
            case GIVEN:
            case SPREAD:
                return p >= 1 && p <= MOST_MADE;
            case CUT:
                return isWithin(p, MOST_JOINED) && q >= 1 && q <= MOST_MADE;
            default:
                return isWithin(operation, INPUTS.length);
        }
    }

    /** Sets of nodes are the bits of an int; no node is the empty set. */
    private static int setOf(int node) {
        return node == NONE ? 0 : 1 << node;
    }

    private static boolean contains(int set, int node) {
        return (set >> node & 1) != 0;
    }

    private static boolean isPartOf(int set, int whole) {
        return (set & ~whole) == 0;
    }

    /** The nodes as they were made, wired, given and kept, whether or not they can be planned. */
    private static final class Graph {
        final int[] operation = new int[MOST_NODES];
        final int[] p = new int[MOST_NODES];
        final int[] q = new int[MOST_NODES];
        final int[][] given = new int[MOST_NODES][MOST_MADE];
        final int[][] source = new int[MOST_NODES][MOST_INPUTS];
        final boolean[] kept = new boolean[MOST_NODES];
        int count;

        boolean has(int node) {
            return isWithin(node, count);
        }

        int inputs(int node) {
            return INPUTS[operation[node]];
        }

        int add(int newOperation, int newP, int newQ) {
            int node = count;
            operation[node] = newOperation;
            p[node] = newP;
            q[node] = newQ;
            Arrays.fill(source[node], NONE);
            count++;
            return node;
        }

        boolean isWired() {
            for (int node = 0; node < count; node++) {
                for (int input = 0; input < inputs(node); input++) {
                    if (source[node][input] == NONE) {
                        return false;
                    }
                }
            }
            return true;
        }

        int dependencies(int node) {
            return setOf(source[node][0]) | setOf(source[node][1]);
        }
    }

    /** Looks for the ring that begins with the least node that is in one. */
    private static final class Rings {
        /** More steps than any two nodes can be apart. */
        private static final int FAR = MOST_NODES;

        final Graph graph;
        final int[] reach = new int[MOST_NODES];
        final int[] stepsLeft = new int[MOST_NODES];
        final int[] member = new int[MOST_NODES];
        int length;

        Rings(Graph graph) {
            this.graph = graph;
        }

        void find() {
            length = 0;
            findReach();
            for (int node = 0; node < graph.count; node++) {
                if (contains(reach[node], node)) {
                    countSteps(node);
                    follow(node);
                    return;
                }
            }
        }

        private void findReach() {
            for (int node = 0; node < graph.count; node++) {
                reach[node] = graph.dependencies(node);
            }
            for (int between = 0; between < graph.count; between++) {
                for (int node = 0; node < graph.count; node++) {
                    if (contains(reach[node], between)) {
                        reach[node] |= reach[between];
                    }
                }
            }
        }

        /** The way back to the beginning is at most as many steps long as there are nodes. */
        private void countSteps(int beginning) {
            Arrays.fill(stepsLeft, FAR);
            stepsLeft[beginning] = 0;
            for (int round = 0; round < graph.count; round++) {
                for (int node = 0; node < graph.count; node++) {
                    int next = nearest(node);
                    if (next != NONE) {
                        stepsLeft[node] = Math.min(stepsLeft[node], stepsLeft[next] + 1);
                    }
                }
            }
        }

        private void follow(int beginning) {
            int node = beginning;
            do {
                member[length] = node;
                length++;
                node = nearest(node);
            } while (node != beginning && node != NONE && length < graph.count);
        }

        private int nearest(int node) {
            int first = graph.source[node][0];
            int second = graph.source[node][1];
            if (first == NONE) {
                return second;
            }
            if (second == NONE) {
                return first;
            }
            return stepsLeft[second] < stepsLeft[first] ? second : first;
        }
    }

    /** The order of the nodes, and what follows from it without their places. */
    private static final class Plan {
        final Graph graph;
        final int[] dependencies = new int[MOST_NODES];
        final int[] dependents = new int[MOST_NODES];
        final int[] size = new int[MOST_NODES];
        final int[] label = new int[MOST_NODES];
        final int[] sequence = new int[MOST_NODES];
        final int[] step = new int[MOST_NODES];
        final int[] last = new int[MOST_NODES];
        final int[] costOf = new int[MOST_NODES];
        int inOrder;
        int length;
        int greatestCost;

        Plan(Graph graph) {
            this.graph = graph;
        }

        /** False when the sizes are not as the operations need them. For graphs without rings. */
        boolean measure() {
            findNeighbours();
            // Sizes and labels come from the sources, so any order with these first will do.
            orderByNumbers();
            for (int k = 0; k < length; k++) {
                int node = sequence[k];
                if (!sizesFit(node)) {
                    return false;
                }
                size[node] = sizeOf(node);
                label[node] = labelOf(node);
            }
            return true;
        }

        void arrange(int way) {
            if (way == BY_LABELS) {
                orderByLabels();
            } else {
                orderByNumbers();
            }
            for (int node = 0; node < graph.count; node++) {
                last[node] = lastStepOf(node);
            }
            addCosts();
        }

        boolean liveTogether(int node, int other) {
            return step[node] <= last[other] && step[other] <= last[node];
        }

        private void findNeighbours() {
            Arrays.fill(dependents, 0);
            for (int node = 0; node < graph.count; node++) {
                dependencies[node] = graph.dependencies(node);
                for (int other = 0; other < graph.count; other++) {
                    if (contains(dependencies[node], other)) {
                        dependents[other] |= setOf(node);
                    }
                }
            }
        }

        private int sizeOfSource(int node, int input) {
            int source = graph.source[node][input];
            return source == NONE ? 0 : size[source];
        }

        private boolean sizesFit(int node) {
            int first = sizeOfSource(node, 0);
            int second = sizeOfSource(node, 1);
            switch (graph.operation[node]) {
                case ADD:
                case MULTIPLY:
                    return first == second;
                case JOIN:
                    return first + second <= MOST_JOINED;
                case CUT:
                    return graph.p[node] + graph.q[node] <= first;
                case SPREAD:
                    return first == 1;
                default:
                    return true;
            }
        }

        private int sizeOf(int node) {
            int first = sizeOfSource(node, 0);
            switch (graph.operation[node]) {
                case GIVEN:
                case SPREAD:
                    return graph.p[node];
                case JOIN:
                    return first + sizeOfSource(node, 1);
                case CUT:
                    return graph.q[node];
                case TOTAL:
                    return 1;
                default:
                    return first;
            }
        }

        private int labelOf(int node) {
            int inputs = graph.inputs(node);
            if (inputs == 0) {
                return 1;
            }
            int first = label[graph.source[node][0]];
            if (inputs == 1) {
                return Math.max(2, first);
            }
            int second = label[graph.source[node][1]];
            int greater = Math.max(first, second);
            int smaller = Math.min(first, second);
            return Math.max(3, Math.max(greater, smaller + 1));
        }

        private void beginOrder() {
            Arrays.fill(step, NONE);
            inOrder = 0;
            length = 0;
        }

        private void append(int node) {
            sequence[length] = node;
            step[node] = length;
            inOrder |= setOf(node);
            length++;
        }

        private void orderByNumbers() {
            beginOrder();
            for (int turn = 0; turn < graph.count; turn++) {
                append(leastReady());
            }
        }

        /** Without rings some node is always ready: when no other is, it is the last one. */
        private int leastReady() {
            int node = 0;
            while (node < graph.count - 1 && !isReady(node)) {
                node++;
            }
            return node;
        }

        private boolean isReady(int node) {
            return isMissing(node) && isPartOf(dependencies[node], inOrder);
        }

        private boolean isMissing(int node) {
            return step[node] == NONE;
        }

        private void orderByLabels() {
            beginOrder();
            for (int node = 0; node < graph.count; node++) {
                if (dependents[node] == 0) {
                    visit(node);
                }
            }
        }

        private void visit(int root) {
            for (int turn = 0; turn < graph.count && isMissing(root); turn++) {
                append(firstDue(root));
            }
        }

        /**
         * The node that comes next while the root is visited. Going down from the root anew each
         * time leads past what is in the order to where the visit stands, without a stack.
         */
        private int firstDue(int root) {
            int node = root;
            for (int depth = 0; depth < graph.count; depth++) {
                int source = sourceToVisit(node);
                if (source == NONE) {
                    return node;
                }
                node = source;
            }
            return node;
        }

        private int sourceToVisit(int node) {
            int first = graph.source[node][0];
            int second = graph.source[node][1];
            boolean secondBefore = first != NONE && second != NONE && label[second] > label[first];
            int earlier = secondBefore ? second : first;
            int later = secondBefore ? first : second;
            if (earlier != NONE && isMissing(earlier)) {
                return earlier;
            }
            return later != NONE && isMissing(later) ? later : NONE;
        }

        private int lastStepOf(int node) {
            if (graph.kept[node]) {
                return graph.count - 1;
            }
            int latest = step[node];
            for (int other = 0; other < graph.count; other++) {
                if (contains(dependents[node], other)) {
                    latest = Math.max(latest, step[other]);
                }
            }
            return latest;
        }

        private void addCosts() {
            greatestCost = 0;
            Arrays.fill(costOf, 0);
            for (int k = 0; k < length; k++) {
                for (int node = 0; node < graph.count; node++) {
                    if (step[node] <= k && k <= last[node]) {
                        costOf[k] += size[node];
                    }
                }
                greatestCost = Math.max(greatestCost, costOf[k]);
            }
        }
    }

    /** Where the nodes of the plan have their cells. */
    private static final class Places {
        final Plan plan;
        final int[] bySize = new int[MOST_NODES];
        final int[] start = new int[MOST_NODES];
        int arena;

        Places(Plan plan) {
            this.plan = plan;
        }

        void assign() {
            sortBySize();
            arena = 0;
            for (int rank = 0; rank < plan.length; rank++) {
                int node = bySize[rank];
                start[node] = lowestStart(rank);
                arena = Math.max(arena, end(node));
            }
        }

        /** Goes by the order and passes smaller nodes only, so that those of a size keep their order. */
        private void sortBySize() {
            for (int k = 0; k < plan.length; k++) {
                int node = plan.sequence[k];
                int rank = k;
                while (rank > 0 && plan.size[bySize[rank - 1]] < plan.size[node]) {
                    bySize[rank] = bySize[rank - 1];
                    rank--;
                }
                bySize[rank] = node;
            }
        }

        /**
         * A node in the way bars every start up to its end, so it is passed once and for all: after
         * as many rounds as there are nodes with places none can be left in the way.
         */
        private int lowestStart(int rank) {
            int node = bySize[rank];
            int at = 0;
            for (int round = 0; round < rank; round++) {
                for (int earlier = 0; earlier < rank; earlier++) {
                    if (isInTheWay(bySize[earlier], node, at)) {
                        at = end(bySize[earlier]);
                    }
                }
            }
            return at;
        }

        private boolean isInTheWay(int other, int node, int at) {
            return plan.liveTogether(other, node) && at < end(other) && start[other] < at + plan.size[node];
        }

        private int end(int node) {
            return start[node] + plan.size[node];
        }
    }

    /** The cells of the latest run. */
    private static final class Cells {
        final Graph graph;
        final Plan plan;
        final Places places;
        final int[] value = new int[MOST_NODES * MOST_JOINED];

        Cells(Places places) {
            this.places = places;
            this.plan = places.plan;
            this.graph = places.plan.graph;
        }

        /** How many cells were put in. */
        int work() {
            Arrays.fill(value, 0);
            int put = 0;
            for (int k = 0; k < plan.length; k++) {
                int node = plan.sequence[k];
                for (int i = 0; i < plan.size[node]; i++) {
                    value[places.start[node] + i] = workOut(node, i);
                }
                put += plan.size[node];
            }
            return put;
        }

        /** Sources are live at the node's own step, so none of their cells is one of the node's. */
        private int workOut(int node, int i) {
            int first = graph.source[node][0];
            int second = graph.source[node][1];
            switch (graph.operation[node]) {
                case GIVEN:
                    return graph.given[node][i];
                case NEGATE:
                    return -valueOf(first, i);
                case ADD:
                    return valueOf(first, i) + valueOf(second, i);
                case MULTIPLY:
                    return valueOf(first, i) * valueOf(second, i);
                case JOIN:
                    int joint = plan.size[first];
                    return i < joint ? valueOf(first, i) : valueOf(second, i - joint);
                case CUT:
                    return valueOf(first, graph.p[node] + i);
                case TOTAL:
                    return totalOf(first);
                default:
                    return valueOf(first, 0);
            }
        }

        private int valueOf(int node, int i) {
            return value[places.start[node] + i];
        }

        private int totalOf(int node) {
            int total = 0;
            for (int i = 0; i < plan.size[node]; i++) {
                total += valueOf(node, i);
            }
            return total;
        }
    }

    /**
     * Looks for the least peak over all orders. What the next step costs hangs only on which nodes
     * came before it, not on how they were ordered, so one number for each set of nodes is enough.
     */
    private static final class LeastPeak {
        final Plan plan;
        final int[] peakOf = new int[1 << MOST_NODES];

        LeastPeak(Plan plan) {
            this.plan = plan;
        }

        int find() {
            int all = (1 << plan.length) - 1;
            // The plan's own order is one of them, so only what stays below its peak is followed.
            Arrays.fill(peakOf, plan.greatestCost);
            peakOf[0] = 0;
            // A set with one node more is a greater number, so each set is ready when it is come to.
            for (int done = 0; done < all; done++) {
                if (peakOf[done] < plan.greatestCost) {
                    goOn(done);
                }
            }
            return peakOf[all];
        }

        private void goOn(int done) {
            int held = heldAfter(done);
            for (int node = 0; node < plan.length; node++) {
                if (!contains(done, node) && isPartOf(plan.dependencies[node], done)) {
                    int next = done | setOf(node);
                    int peakThere = Math.max(peakOf[done], held + plan.size[node]);
                    peakOf[next] = Math.min(peakOf[next], peakThere);
                }
            }
        }

        /** What of the nodes that are done is live at the next step, whichever node comes then. */
        private int heldAfter(int done) {
            int held = 0;
            for (int node = 0; node < plan.length; node++) {
                boolean needed = plan.graph.kept[node] || !isPartOf(plan.dependents[node], done);
                if (contains(done, node) && needed) {
                    held += plan.size[node];
                }
            }
            return held;
        }
    }
}
