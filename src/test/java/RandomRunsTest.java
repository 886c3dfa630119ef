import java.util.ArrayList;
import java.util.Collections;
import java.util.List;
import java.util.Random;
import java.util.function.Function;

/** Holds ArenaPlan against the Model: runs of calls by fixed seeds, every answer compared. */
public final class RandomRunsTest {
    private static final Checks CHECKS = new Checks();
    /** What an object answers after so many calls is free. */
    private static final int MOST_CALLS = 512;

    private final long seed;
    private final Random random;
    private final ArenaPlan arenaPlan = new ArenaPlan();
    private final Model model = new Model();
    private final StringBuilder calls = new StringBuilder();
    private int called;

    private RandomRunsTest(long seed) {
        this.seed = seed;
        this.random = new Random(seed);
    }

    public static void main(String[] args) {
        for (long seed = 0; seed < 3_000; seed++) {
            new RandomRunsTest(seed).anyCalls();
        }
        for (long seed = 10_000; seed < 13_000; seed++) {
            new RandomRunsTest(seed).fittingGraph();
        }
        CHECKS.end();
    }

    private void both(String call, Function<ArenaPlan, Object> ours, Function<Model, Object> models) {
        if (called == MOST_CALLS) {
            return;
        }
        called++;
        calls.append(' ').append(call);
        String want = Checks.outcome(() -> models.apply(model));
        String got = Checks.outcome(() -> ours.apply(arenaPlan));
        CHECKS.compare("seed " + seed + ":" + (want.equals(got) ? "" : calls), want, got);
    }

    private void make(int operation, int p, int q) {
        both("make(" + operation + ", " + p + ", " + q + ")", x -> x.make(operation, p, q), m -> m.make(operation, p, q));
    }

    private void give(int node, int i, int v) {
        both("give(" + node + ", " + i + ", " + v + ")", x -> x.give(node, i, v), m -> m.give(node, i, v));
    }

    private void wire(int node, int input, int source) {
        both("wire(" + node + ", " + input + ", " + source + ")", x -> x.wire(node, input, source), m -> m.wire(node, input, source));
    }

    private void keep(int node, boolean on) {
        both("keep(" + node + ", " + on + ")", x -> x.keep(node, on), m -> m.keep(node, on));
    }

    private void plan(int way) {
        both("plan(" + way + ")", x -> x.plan(way), m -> m.plan(way));
    }

    private void run() {
        both("run()", x -> x.run(), m -> m.run());
    }

    private void ask(int questions) {
        both("nodes()", x -> x.nodes(), m -> m.nodes());
        both("peak()", x -> x.peak(), m -> m.peak());
        both("least()", x -> x.least(), m -> m.least());
        for (int asked = 0; asked < questions; asked++) {
            askAbout(random.nextInt(model.nodes() + 2) - 1);
        }
    }

    private void askAbout(int k) {
        int part = random.nextInt(7) - 1;
        int i = random.nextInt(random.nextInt(3) == 0 ? 420 : 20) - 1;
        switch (random.nextInt(9)) {
            case 0 -> both("ring(" + k + ")", x -> x.ring(k), m -> m.ring(k));
            case 1 -> both("order(" + k + ")", x -> x.order(k), m -> m.order(k));
            case 2 -> both("cost(" + k + ")", x -> x.cost(k), m -> m.cost(k));
            case 3, 4, 5 -> both("about(" + k + ", " + part + ")", x -> x.about(k, part), m -> m.about(k, part));
            case 6, 7 -> both("cell(" + i + ")", x -> x.cell(i), m -> m.cell(i));
            default -> both("result(" + k + ", " + i + ")", x -> x.result(k, i), m -> m.result(k, i));
        }
    }

    private int anyInt() {
        return switch (random.nextInt(4)) {
            case 0 -> random.nextInt();
            case 1 -> random.nextInt(2) == 0 ? Integer.MIN_VALUE : Integer.MAX_VALUE;
            default -> random.nextInt(20) - 10;
        };
    }

    private int anyNode() {
        return random.nextInt(20) == 0 ? anyInt() : random.nextInt(model.nodes() + 1) - (random.nextInt(12) == 0 ? 1 : 0);
    }

    /** Calls of all sorts, many of them refused; most graphs with rings or inputs that are not wired. */
    private void anyCalls() {
        int most = 1 + random.nextInt(13);
        for (int turn = 0; turn < 60; turn++) {
            anyCall(most);
        }
        plan(random.nextInt(2));
        ask(200);
    }

    private void anyCall(int most) {
        switch (random.nextInt(10)) {
            case 0, 1, 2 -> anyMake(most);
            case 3, 4, 5 -> wire(anyNode(), random.nextInt(2), anyNode());
            case 6 -> wire(anyNode(), anyInt(), anyNode());
            case 7 -> keep(anyNode(), random.nextBoolean());
            case 8 -> give(anyNode(), random.nextInt(18) - 1, anyInt());
            default -> anyWork();
        }
    }

    private void anyMake(int most) {
        if (model.nodes() < most) {
            int p = random.nextInt(4) == 0 ? anyInt() : 1;
            make(random.nextInt(16) == 0 ? anyInt() : random.nextInt(8), p, random.nextInt(3) == 0 ? anyInt() : 1);
        }
    }

    private void anyWork() {
        plan(random.nextInt(8) == 0 ? anyInt() : random.nextInt(2));
        run();
        for (int asked = 0; asked < 4; asked++) {
            askAbout(anyNode());
        }
    }

    /** Graphs that can be planned, with nodes whose numbers are not in the order of their wiring. */
    private void fittingGraph() {
        int count = 1 + random.nextInt(12);
        int[][] nodes = new int[count][];
        int[] sizes = new int[count];
        for (int k = 0; k < count; k++) {
            nodes[k] = fittingNode(k, sizes);
        }
        List<Integer> numbers = new ArrayList<>();
        for (int k = 0; k < count; k++) {
            numbers.add(k);
        }
        Collections.shuffle(numbers, random);
        for (int number = 0; number < count; number++) {
            int[] node = nodes[numbers.indexOf(number)];
            make(node[0], node[1], node[2]);
        }
        wireAll(nodes, numbers);
        for (int turn = 0; turn < 3; turn++) {
            planAndRun(count);
        }
    }

    /** Operation, p, q and the sources, taken from the nodes before. */
    private int[] fittingNode(int k, int[] sizes) {
        for (int trial = 0; trial < 30 && k > 0; trial++) {
            int operation = random.nextInt(8);
            int first = random.nextInt(k);
            int second = random.nextInt(k);
            int p = operation == 5 ? random.nextInt(sizes[first]) : 1 + random.nextInt(16);
            int q = operation == 5 ? 1 + random.nextInt(Math.min(16, sizes[first] - p)) : anyInt();
            if (fits(operation, sizes[first], sizes[second])) {
                sizes[k] = switch (operation) {
                    case 0, 7 -> p;
                    case 4 -> sizes[first] + sizes[second];
                    case 5 -> q;
                    case 6 -> 1;
                    default -> sizes[first];
                };
                return new int[] {operation, p, q, first, second};
            }
        }
        sizes[k] = 1 + random.nextInt(16);
        return new int[] {0, sizes[k], anyInt(), 0, 0};
    }

    private boolean fits(int operation, int first, int second) {
        return switch (operation) {
            case 0 -> random.nextInt(3) == 0;
            case 2, 3 -> first == second;
            case 4 -> first + second <= 40;
            case 7 -> first == 1;
            default -> true;
        };
    }

    private void wireAll(int[][] nodes, List<Integer> numbers) {
        for (int k = 0; k < nodes.length; k++) {
            int operation = nodes[k][0];
            if (operation != 0) {
                wire(numbers.get(k), 0, numbers.get(nodes[k][3]));
            }
            if (operation >= 2 && operation <= 4) {
                wire(numbers.get(k), 1, numbers.get(nodes[k][4]));
            }
        }
    }

    private void planAndRun(int count) {
        for (int turn = 0; turn < 3; turn++) {
            keep(random.nextInt(count), random.nextInt(3) == 0);
        }
        plan(random.nextInt(2));
        for (int turn = 0; turn < 15; turn++) {
            give(random.nextInt(count), random.nextInt(16), anyInt());
        }
        run();
        give(random.nextInt(count), 0, anyInt());
        ask(120);
    }
}
