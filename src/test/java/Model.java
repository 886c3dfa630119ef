import java.util.ArrayList;
import java.util.HashMap;
import java.util.HashSet;
import java.util.List;
import java.util.Map;
import java.util.NoSuchElementException;
import java.util.Set;

/**
 * The document once more, written to be plainly right and not to be quick, so that ArenaPlan can be
 * held against it: recursion as the text has it, cells and steps as a grid, orders tried out.
 */
final class Model {
    private static final class Node {
        int operation;
        int p;
        int q;
        int[] given = new int[16];
        boolean kept;
        List<Integer> inputs = new ArrayList<>();
    }

    private final List<Node> all = new ArrayList<>();
    private boolean planned;
    private boolean ran;
    private int[] sizes;
    private int[] labels;
    private List<Integer> sequence;
    private int[] starts;
    private int arena;
    private int[] cells;

    int make(int operation, int p, int q) {
        boolean wrong = operation < 0 || operation > 7;
        wrong |= (operation == 0 || operation == 7) && (p < 1 || p > 16);
        wrong |= operation == 5 && (p < 0 || p > 39 || q < 1 || q > 16);
        if (wrong) {
            throw new IllegalArgumentException();
        }
        if (all.size() >= 12) {
            throw new UnsupportedOperationException();
        }
        Node node = new Node();
        node.operation = operation;
        node.p = p;
        node.q = q;
        int inputs = operation == 0 ? 0 : operation >= 2 && operation <= 4 ? 2 : 1;
        for (int input = 0; input < inputs; input++) {
            node.inputs.add(-1);
        }
        all.add(node);
        planned = false;
        return all.size() - 1;
    }

    private boolean isNode(int node) {
        return node >= 0 && node < all.size();
    }

    boolean give(int node, int i, int v) {
        if (!isNode(node) || all.get(node).operation != 0 || i < 0 || i >= all.get(node).p) {
            return false;
        }
        all.get(node).given[i] = v;
        return true;
    }

    boolean wire(int node, int input, int source) {
        if (!isNode(node) || input < 0 || input >= all.get(node).inputs.size()) {
            return false;
        }
        if (source != -1 && !isNode(source)) {
            return false;
        }
        all.get(node).inputs.set(input, source);
        planned = false;
        return true;
    }

    boolean keep(int node, boolean on) {
        if (!isNode(node) || all.get(node).kept == on) {
            return false;
        }
        all.get(node).kept = on;
        planned = false;
        return true;
    }

    int nodes() {
        return all.size();
    }

    private List<Integer> sources(int node) {
        List<Integer> wired = new ArrayList<>(all.get(node).inputs);
        wired.removeIf(source -> source == -1);
        return wired;
    }

    /** In how many steps one comes from a node to another: 0 when it is the same, -1 when not at all. */
    private int steps(int from, int to) {
        Set<Integer> seen = new HashSet<>(Set.of(from));
        List<Integer> front = List.of(from);
        for (int steps = 0; !front.isEmpty(); steps++) {
            if (front.contains(to)) {
                return steps;
            }
            List<Integer> next = new ArrayList<>();
            for (int node : front) {
                for (int source : sources(node)) {
                    if (seen.add(source)) {
                        next.add(source);
                    }
                }
            }
            front = next;
        }
        return -1;
    }

    private boolean inRing(int node) {
        return sources(node).stream().anyMatch(source -> steps(source, node) >= 0);
    }

    private List<Integer> theRing() {
        List<Integer> ring = new ArrayList<>();
        for (int beginning = 0; beginning < all.size(); beginning++) {
            if (inRing(beginning)) {
                int node = beginning;
                do {
                    ring.add(node);
                    node = nearest(sources(node), beginning);
                } while (node != beginning);
                return ring;
            }
        }
        return ring;
    }

    private int nearest(List<Integer> sources, int beginning) {
        int nearest = -1;
        for (int source : sources) {
            int steps = steps(source, beginning);
            if (steps >= 0 && (nearest == -1 || steps < steps(nearest, beginning))) {
                nearest = source;
            }
        }
        return nearest;
    }

    int ring(int k) {
        List<Integer> ring = theRing();
        if (k < 0 || k >= ring.size()) {
            throw new NoSuchElementException();
        }
        return ring.get(k);
    }

    int plan(int way) {
        if (way != 0 && way != 1) {
            throw new IllegalArgumentException();
        }
        if (all.isEmpty() || all.stream().anyMatch(node -> node.inputs.contains(-1))) {
            throw new NoSuchElementException();
        }
        if (!theRing().isEmpty()) {
            throw new IllegalStateException();
        }
        int[] newSizes = new int[all.size()];
        for (int node = 0; node < all.size(); node++) {
            newSizes[node] = size(node);
        }
        sizes = newSizes;
        labels = new int[all.size()];
        for (int node = 0; node < all.size(); node++) {
            labels[node] = label(node);
        }
        sequence = way == 0 ? byNumbers() : byLabels();
        assignPlaces();
        planned = true;
        ran = false;
        return arena;
    }

    private int size(int number) {
        Node node = all.get(number);
        int first = node.inputs.isEmpty() ? 0 : size(node.inputs.get(0));
        int second = node.inputs.size() < 2 ? 0 : size(node.inputs.get(1));
        boolean fits = switch (node.operation) {
            case 2, 3 -> first == second;
            case 4 -> first + second <= 40;
            case 5 -> first >= node.p + node.q;
            case 7 -> first == 1;
            default -> true;
        };
        if (!fits) {
            throw new ArithmeticException();
        }
        return switch (node.operation) {
            case 0, 7 -> node.p;
            case 4 -> first + second;
            case 5 -> node.q;
            case 6 -> 1;
            default -> first;
        };
    }

    private int label(int number) {
        List<Integer> inputs = all.get(number).inputs;
        if (inputs.isEmpty()) {
            return 1;
        }
        if (inputs.size() == 1) {
            return Math.max(2, label(inputs.get(0)));
        }
        int a = label(inputs.get(0));
        int b = label(inputs.get(1));
        if (b > a) {
            int swapped = a;
            a = b;
            b = swapped;
        }
        return Math.max(3, Math.max(a, b + 1));
    }

    private List<Integer> byNumbers() {
        List<Integer> order = new ArrayList<>();
        while (order.size() < all.size()) {
            for (int node = 0; node < all.size(); node++) {
                if (!order.contains(node) && order.containsAll(sources(node))) {
                    order.add(node);
                    break;
                }
            }
        }
        return order;
    }

    private List<Integer> byLabels() {
        List<Integer> order = new ArrayList<>();
        for (int node = 0; node < all.size(); node++) {
            int visited = node;
            if (all.stream().noneMatch(other -> other.inputs.contains(visited))) {
                visit(node, order);
            }
        }
        return order;
    }

    private void visit(int node, List<Integer> order) {
        if (order.contains(node)) {
            return;
        }
        List<Integer> sources = new ArrayList<>(sources(node));
        sources.sort((one, other) -> labels[other] - labels[one]);
        for (int source : sources) {
            visit(source, order);
        }
        order.add(node);
    }

    private static int lastStep(List<Node> all, List<Integer> order, int node) {
        if (all.get(node).kept) {
            return order.size() - 1;
        }
        for (int k = order.size() - 1; k >= 0; k--) {
            if (all.get(order.get(k)).inputs.contains(node)) {
                return k;
            }
        }
        return order.indexOf(node);
    }

    private boolean live(List<Integer> order, int node, int k) {
        return order.indexOf(node) <= k && k <= lastStep(all, order, node);
    }

    private int costOf(List<Integer> order, int k) {
        int cost = 0;
        for (int node = 0; node < all.size(); node++) {
            cost += live(order, node, k) ? sizes[node] : 0;
        }
        return cost;
    }

    private int peakOf(List<Integer> order) {
        int peak = 0;
        for (int k = 0; k < order.size(); k++) {
            peak = Math.max(peak, costOf(order, k));
        }
        return peak;
    }

    private void assignPlaces() {
        boolean[][] taken = new boolean[1000][all.size()];
        starts = new int[all.size()];
        arena = 0;
        List<Integer> bySize = new ArrayList<>(sequence);
        bySize.sort((one, other) -> sizes[other] - sizes[one]);
        for (int node : bySize) {
            int o = 0;
            while (!fitsAt(taken, node, o)) {
                o++;
            }
            starts[node] = o;
            arena = Math.max(arena, o + sizes[node]);
            for (int cell = o; cell < o + sizes[node]; cell++) {
                for (int k = 0; k < all.size(); k++) {
                    taken[cell][k] |= live(sequence, node, k);
                }
            }
        }
    }

    private boolean fitsAt(boolean[][] taken, int node, int o) {
        for (int cell = o; cell < o + sizes[node]; cell++) {
            for (int k = 0; k < all.size(); k++) {
                if (taken[cell][k] && live(sequence, node, k)) {
                    return false;
                }
            }
        }
        return true;
    }

    private void needPlan() {
        if (!planned) {
            throw new IllegalStateException();
        }
    }

    private static void needIndex(boolean there) {
        if (!there) {
            throw new IndexOutOfBoundsException();
        }
    }

    int order(int k) {
        needPlan();
        needIndex(isNode(k));
        return sequence.get(k);
    }

    int about(int node, int part) {
        needPlan();
        needIndex(isNode(node) && part >= 0 && part <= 4);
        return switch (part) {
            case 0 -> sizes[node];
            case 1 -> sequence.indexOf(node);
            case 2 -> lastStep(all, sequence, node);
            case 3 -> starts[node];
            default -> labels[node];
        };
    }

    int cost(int k) {
        needPlan();
        needIndex(isNode(k));
        return costOf(sequence, k);
    }

    int peak() {
        needPlan();
        return peakOf(sequence);
    }

    int least() {
        needPlan();
        if (all.size() <= 6) {
            return leastOfAll(new ArrayList<>());
        }
        return leastUpTo((1 << all.size()) - 1, new HashMap<>());
    }

    /** Tries out every order that begins so. */
    private int leastOfAll(List<Integer> begun) {
        if (begun.size() == all.size()) {
            return peakOf(begun);
        }
        int least = Integer.MAX_VALUE;
        for (int node = 0; node < all.size(); node++) {
            if (!begun.contains(node) && begun.containsAll(sources(node))) {
                begun.add(node);
                least = Math.min(least, leastOfAll(begun));
                begun.remove(begun.size() - 1);
            }
        }
        return least;
    }

    /** The least peak up to where a set of nodes is done: the last of them, and the others before. */
    private int leastUpTo(int set, Map<Integer, Integer> known) {
        if (set == 0) {
            return 0;
        }
        Integer before = known.get(set);
        if (before != null) {
            return before;
        }
        int least = Integer.MAX_VALUE;
        for (int node = 0; node < all.size(); node++) {
            int others = set & ~(1 << node);
            if (others != set && !isNeededIn(others, node)) {
                least = Math.min(least, Math.max(leastUpTo(others, known), costAfter(others, node)));
            }
        }
        known.put(set, least);
        return least;
    }

    private boolean isNeededIn(int set, int node) {
        for (int other = 0; other < all.size(); other++) {
            if ((set >> other & 1) == 1 && all.get(other).inputs.contains(node)) {
                return true;
            }
        }
        return false;
    }

    private int costAfter(int set, int node) {
        int cost = sizes[node];
        int rest = ~set;
        for (int other = 0; other < all.size(); other++) {
            boolean held = all.get(other).kept || isNeededIn(rest, other);
            cost += (set >> other & 1) == 1 && held ? sizes[other] : 0;
        }
        return cost;
    }

    int run() {
        needPlan();
        cells = new int[arena];
        int put = 0;
        for (int node : sequence) {
            int[] value = value(node);
            System.arraycopy(value, 0, cells, starts[node], value.length);
            put += value.length;
        }
        ran = true;
        return put;
    }

    private int[] value(int number) {
        Node node = all.get(number);
        int[] first = node.inputs.isEmpty() ? null : read(node.inputs.get(0));
        int[] second = node.inputs.size() < 2 ? null : read(node.inputs.get(1));
        int[] value = new int[sizes[number]];
        for (int i = 0; i < value.length; i++) {
            value[i] = switch (node.operation) {
                case 0 -> node.given[i];
                case 1 -> 0 - first[i];
                case 2 -> first[i] + second[i];
                case 3 -> first[i] * second[i];
                case 4 -> i < first.length ? first[i] : second[i - first.length];
                case 5 -> first[node.p + i];
                case 6 -> java.util.Arrays.stream(first).sum();
                default -> first[0];
            };
        }
        return value;
    }

    private int[] read(int node) {
        return java.util.Arrays.copyOfRange(cells, starts[node], starts[node] + sizes[node]);
    }

    private void needRun() {
        needPlan();
        if (!ran) {
            throw new IllegalStateException();
        }
    }

    int cell(int i) {
        needRun();
        needIndex(i >= 0 && i < arena);
        return cells[i];
    }

    int result(int node, int i) {
        needRun();
        if (!isNode(node) || !all.get(node).kept) {
            throw new NoSuchElementException();
        }
        needIndex(i >= 0 && i < sizes[node]);
        return cells[starts[node] + i];
    }
}
