import java.util.NoSuchElementException;

/** Promises 1 to 6, sentence by sentence: a new object, make, give, wire, keep, nodes. */
public final class BuildingTest extends GraphChecks {
    private static final int[] FAR_OUT = {Integer.MIN_VALUE, Integer.MAX_VALUE};

    public static void main(String[] args) {
        newObject();
        objectsOfTheirOwn();
        makeAnswersNumbers();
        twelveAreUsed();
        makeTakesTwelve();
        makeDoesNotKeep();
        makeDoesNotWire();
        makeWithNumbersForNothing();
        makeOfNoOperation();
        makeOfSizesOutside();
        makeOfCutsFromOutside();
        makeOfCutsOfSizesOutside();
        giveSetsOneInt();
        giveToNoNode();
        giveToAnother();
        giveOfNoInt();
        giveLeavesWhatWasRun();
        wireReplaces();
        wireToNothing();
        wireAsItIs();
        wireOfNoNode();
        wireOfNoInput();
        wireToNoSource();
        keepHoldsUntilItIsNot();
        keepOfNoNode();
        keepAsItIs();
        nodes();
        CHECKS.end();
    }

    private static void newObject() {
        CHECKS.sentence("ArenaPlan(): No nodes.");
        CHECKS.answers("nodes", 0, () -> new ArenaPlan().nodes());
        CHECKS.answers("give", false, () -> new ArenaPlan().give(0, 0, 1));
        CHECKS.answers("wire", false, () -> new ArenaPlan().wire(0, 0, -1));
        CHECKS.answers("keep", false, () -> new ArenaPlan().keep(0, true));
        CHECKS.answers("keep not", false, () -> new ArenaPlan().keep(0, false));
        CHECKS.refuses("ring", NoSuchElementException.class, () -> new ArenaPlan().ring(0));
        CHECKS.refuses("plan", NoSuchElementException.class, () -> new ArenaPlan().plan(0));
        CHECKS.refuses("order", IllegalStateException.class, () -> new ArenaPlan().order(0));
        CHECKS.refuses("about", IllegalStateException.class, () -> new ArenaPlan().about(0, 0));
        CHECKS.refuses("cost", IllegalStateException.class, () -> new ArenaPlan().cost(0));
        CHECKS.refuses("peak", IllegalStateException.class, () -> new ArenaPlan().peak());
        CHECKS.refuses("least", IllegalStateException.class, () -> new ArenaPlan().least());
        CHECKS.refuses("run", IllegalStateException.class, () -> new ArenaPlan().run());
        CHECKS.refuses("cell", IllegalStateException.class, () -> new ArenaPlan().cell(0));
        CHECKS.refuses("result", IllegalStateException.class, () -> new ArenaPlan().result(0, 0));
    }

    private static void objectsOfTheirOwn() {
        ArenaPlan one = new ArenaPlan();
        ArenaPlan other = new ArenaPlan();
        CHECKS.answers("one: make", 0, () -> one.make(GIVEN, 1, 0));
        CHECKS.answers("one: plan", 1, () -> one.plan(0));
        CHECKS.answers("other: nodes", 0, () -> other.nodes());
        CHECKS.refuses("other: peak", IllegalStateException.class, () -> other.peak());
    }

    private static void makeAnswersNumbers() {
        CHECKS.sentence("A new node, not KEPT: its number.");
        ArenaPlan x = new ArenaPlan();
        for (int operation = 0; operation < 8; operation++) {
            int made = operation;
            CHECKS.answers("make(" + made + ", 1, 1)", made, () -> x.make(made, 1, 1));
        }
        ArenaPlan y = new ArenaPlan();
        CHECKS.refuses("make refused", IllegalArgumentException.class, () -> y.make(8, 1, 1));
        CHECKS.answers("a refused one takes no number", 0, () -> y.make(GIVEN, 1, 1));
    }

    private static ArenaPlan twelve() {
        ArenaPlan x = new ArenaPlan();
        for (int node = 0; node < MOST_NODES; node++) {
            x.make(GIVEN, 1, 0);
        }
        return x;
    }

    private static void twelveAreUsed() {
        CHECKS.sentence("NODES are 0, 1, .. in the order in which they are made, at most 12.");
        ArenaPlan x = new ArenaPlan();
        for (int node = 0; node < MOST_NODES - 1; node++) {
            int number = node;
            CHECKS.answers("make one of eleven", number, () -> x.make(NEGATE, 0, 0));
        }
        CHECKS.answers("no twelfth as a source", false, () -> x.wire(0, 0, 11));
        CHECKS.answers("make the twelfth", 11, () -> x.make(GIVEN, 1, 0));
        for (int node = 0; node < MOST_NODES - 1; node++) {
            int wired = node;
            CHECKS.answers("the twelfth as a source", true, () -> x.wire(wired, 0, 11));
        }
        CHECKS.answers("give the twelfth", true, () -> x.give(11, 0, 6));
        CHECKS.answers("keep the eleventh", true, () -> x.keep(10, true));
        CHECKS.answers("keep the twelfth", true, () -> x.keep(11, true));
        CHECKS.answers("plan", 2, () -> x.plan(0));
        CHECKS.answers("run", 12, () -> x.run());
        CHECKS.answers("result of the eleventh", -6, () -> x.result(10, 0));
        CHECKS.answers("result of the twelfth", 6, () -> x.result(11, 0));
    }

    private static void makeTakesTwelve() {
        CHECKS.sentence("UnsupportedOperationException when there are twelve.");
        ArenaPlan x = new ArenaPlan();
        for (int node = 0; node < MOST_NODES; node++) {
            int number = node;
            CHECKS.answers("make one of twelve", number, () -> x.make(GIVEN, 1, 0));
        }
        for (int operation = 0; operation < 8; operation++) {
            int made = operation;
            CHECKS.refuses("make the thirteenth", UnsupportedOperationException.class, () -> x.make(made, 1, 1));
        }
        CHECKS.answers("nodes", 12, () -> x.nodes());
        CHECKS.answers("the twelfth can be given", true, () -> x.give(11, 0, 1));
        CHECKS.answers("there is no thirteenth", false, () -> x.give(12, 0, 1));
        CHECKS.answers("the twelve can be planned", 1, () -> x.plan(0));
    }

    private static void makeDoesNotKeep() {
        CHECKS.sentence("A new node, not KEPT");
        for (int operation = 0; operation < 8; operation++) {
            ArenaPlan x = new ArenaPlan();
            x.make(operation, 1, 1);
            CHECKS.answers("keep not " + operation, false, () -> x.keep(0, false));
            CHECKS.answers("keep " + operation, true, () -> x.keep(0, true));
            x.make(operation, 1, 1);
            CHECKS.answers("a new one beside a kept one", false, () -> x.keep(1, false));
        }
        ArenaPlan x = ran(made(given(1)));
        CHECKS.refuses("its result", NoSuchElementException.class, () -> x.result(0, 0));
    }

    private static void makeDoesNotWire() {
        CHECKS.sentence("as many INPUTS as that needs, first not WIRED");
        for (int operation = 1; operation < 8; operation++) {
            ArenaPlan x = made(given(1), new int[] {operation, 1, 1});
            CHECKS.refuses("not wired " + operation, NoSuchElementException.class, () -> x.plan(0));
            x.wire(1, INPUTS[operation] - 1, 0);
            if (INPUTS[operation] == 2) {
                CHECKS.refuses("the first not wired " + operation, NoSuchElementException.class, () -> x.plan(0));
            }
        }
        CHECKS.answers("GIVEN needs none", 1, () -> made(given(1)).plan(0));
    }

    private static void makeWithNumbersForNothing() {
        CHECKS.sentence("(p and q are for nothing where none is named.)");
        for (int odd : new int[] {Integer.MIN_VALUE, -1, 0, 17, 40, Integer.MAX_VALUE}) {
            ArenaPlan x = new ArenaPlan();
            int[] withoutNumbers = {NEGATE, ADD, MULTIPLY, JOIN, TOTAL};
            for (int k = 0; k < withoutNumbers.length; k++) {
                int operation = withoutNumbers[k];
                CHECKS.answers("make(" + operation + ", " + odd + ")", k, () -> x.make(operation, odd, odd));
            }
            CHECKS.answers("make GIVEN with q " + odd, 5, () -> x.make(GIVEN, 3, odd));
            CHECKS.answers("make SPREAD with q " + odd, 6, () -> x.make(SPREAD, 2, odd));
            int[][] wires = {{0, 0, 5}, {1, 0, 0}, {1, 1, 5}, {2, 0, 0}, {2, 1, 1}, {3, 0, 2}, {3, 1, 0}, {4, 0, 3}, {6, 0, 4}};
            for (int[] wire : wires) {
                x.wire(wire[0], wire[1], wire[2]);
            }
            planned(x);
            allAbout("with " + odd, x, SIZE, 3, 3, 3, 6, 1, 3, 2);
        }
    }

    private static void makeOfNoOperation() {
        CHECKS.sentence("IllegalArgumentException when the operation is not 0 .. 7");
        ArenaPlan x = new ArenaPlan();
        for (int wrong : new int[] {-1, 8, Integer.MIN_VALUE, Integer.MAX_VALUE}) {
            CHECKS.refuses("make(" + wrong + ", 1, 1)", IllegalArgumentException.class, () -> x.make(wrong, 1, 1));
        }
        CHECKS.answers("make(0, 1, 1)", 0, () -> x.make(0, 1, 1));
        CHECKS.answers("make(7, 1, 1)", 1, () -> x.make(7, 1, 1));
    }

    private static void makeOfSizesOutside() {
        CHECKS.sentence("for GIVEN and SPREAD p is not 1 .. 16");
        for (int operation : new int[] {GIVEN, SPREAD}) {
            ArenaPlan x = new ArenaPlan();
            for (int wrong : new int[] {-1, 0, 17, Integer.MIN_VALUE, Integer.MAX_VALUE}) {
                CHECKS.refuses("make p " + wrong, IllegalArgumentException.class, () -> x.make(operation, wrong, 1));
            }
            CHECKS.answers("make p 1", 0, () -> x.make(operation, 1, 1));
            CHECKS.answers("make p 16", 1, () -> x.make(operation, 16, 1));
        }
    }

    private static void makeOfCutsFromOutside() {
        CHECKS.sentence("for CUT p is not 0 .. 39");
        ArenaPlan x = new ArenaPlan();
        for (int wrong : new int[] {-1, 40, Integer.MIN_VALUE, Integer.MAX_VALUE}) {
            CHECKS.refuses("make CUT p " + wrong, IllegalArgumentException.class, () -> x.make(CUT, wrong, 1));
        }
        CHECKS.answers("make CUT p 0", 0, () -> x.make(CUT, 0, 1));
        CHECKS.answers("make CUT p 39", 1, () -> x.make(CUT, 39, 1));
    }

    private static void makeOfCutsOfSizesOutside() {
        CHECKS.sentence("or q not 1 .. 16");
        ArenaPlan x = new ArenaPlan();
        for (int wrong : new int[] {-1, 0, 17, Integer.MIN_VALUE, Integer.MAX_VALUE}) {
            CHECKS.refuses("make CUT q " + wrong, IllegalArgumentException.class, () -> x.make(CUT, 0, wrong));
        }
        CHECKS.answers("make CUT q 1", 0, () -> x.make(CUT, 0, 1));
        CHECKS.answers("make CUT q 16", 1, () -> x.make(CUT, 0, 16));
        CHECKS.answers("make CUT, no source can have these", 2, () -> x.make(CUT, 39, 16));
    }

    private static void giveSetsOneInt() {
        CHECKS.sentence("The int i of a GIVEN becomes v.");
        ArenaPlan x = keeping(made(given(3), given(16)), 0, 1);
        CHECKS.answers("the last", true, () -> x.give(0, 2, Integer.MIN_VALUE));
        CHECKS.answers("the first", true, () -> x.give(0, 0, 7));
        CHECKS.answers("the same again", true, () -> x.give(0, 0, 7));
        CHECKS.answers("the last of sixteen", true, () -> x.give(1, 15, Integer.MAX_VALUE));
        hasResult("given", ran(x), 0, 7, 0, Integer.MIN_VALUE);
        hasResult("given", x, 1, 0, 0, 0, 0, 0, 0, 0, 0, 0, 0, 0, 0, 0, 0, 0, Integer.MAX_VALUE);
        CHECKS.answers("another in its place", true, () -> x.give(0, 0, -7));
        hasResult("given anew", ran(x), 0, -7, 0, Integer.MIN_VALUE);
    }

    private static void giveToNoNode() {
        CHECKS.sentence("give: False when there is no such node");
        ArenaPlan x = made(given(2), given(2));
        for (int wrong : new int[] {-1, 2, 11, 12, Integer.MIN_VALUE, Integer.MAX_VALUE}) {
            CHECKS.answers("give(" + wrong + ", 0, 5)", false, () -> x.give(wrong, 0, 5));
        }
        CHECKS.answers("give to the last node", true, () -> x.give(1, 0, 5));
    }

    private static void giveToAnother() {
        CHECKS.sentence("False when [..] it is another");
        for (int operation = 1; operation < 8; operation++) {
            ArenaPlan x = made(new int[] {operation, 2, 1});
            CHECKS.answers("give to operation " + operation, false, () -> x.give(0, 0, 5));
        }
    }

    private static void giveOfNoInt() {
        CHECKS.sentence("or it has no int i");
        for (int size : new int[] {1, 2, 15, 16}) {
            ArenaPlan x = made(given(size), given(16));
            CHECKS.answers("give before the first", false, () -> x.give(0, -1, 5));
            CHECKS.answers("give the first", true, () -> x.give(0, 0, 5));
            CHECKS.answers("give the last of " + size, true, () -> x.give(0, size - 1, 5));
            CHECKS.answers("give behind the last of " + size, false, () -> x.give(0, size, 5));
            for (int wrong : FAR_OUT) {
                CHECKS.answers("give far out", false, () -> x.give(0, wrong, 5));
            }
        }
    }

    private static void giveLeavesWhatWasRun() {
        CHECKS.sentence("(What was run stays.)");
        ArenaPlan x = ran(keeping(giving(made(given(1)), 0, 4), 0));
        CHECKS.answers("give after a run", true, () -> x.give(0, 0, 9));
        CHECKS.answers("the plan stays", 1, () -> x.peak());
        CHECKS.answers("the result stays", 4, () -> x.result(0, 0));
        CHECKS.answers("the cell stays", 4, () -> x.cell(0));
        CHECKS.answers("give refused after a run", false, () -> x.give(0, 1, 9));
        CHECKS.answers("the result stays", 4, () -> x.result(0, 0));
        x.run();
        CHECKS.answers("the result of the next run", 9, () -> x.result(0, 0));
    }

    private static void wireReplaces() {
        CHECKS.sentence("The input (0 or 1) of a node gets a source in place of the one that it had");
        ArenaPlan x = keeping(made(given(1), given(1), given(1), of(JOIN, 0, 1)), 3);
        giving(x, 0, 5);
        giving(x, 1, 6);
        giving(x, 2, 7);
        hasResult("as wired", ran(x), 3, 5, 6);
        CHECKS.answers("wire input 0", true, () -> x.wire(3, 0, 2));
        hasResult("input 0 another", ran(x), 3, 7, 6);
        CHECKS.answers("wire input 1", true, () -> x.wire(3, 1, 0));
        hasResult("input 1 another", ran(x), 3, 7, 5);
        CHECKS.answers("wire input 1 as input 0", true, () -> x.wire(3, 1, 2));
        hasResult("both the same", ran(x), 3, 7, 7);
        ArenaPlan y = made(of(NEGATE, 1), given(3));
        CHECKS.answers("a later node as the source", 6, () -> y.plan(0));
    }

    private static void wireToNothing() {
        CHECKS.sentence("source -1: it is not wired.");
        ArenaPlan x = planned(made(given(1), of(ADD, 0, 0)));
        for (int input = 0; input < 2; input++) {
            int opened = input;
            CHECKS.answers("unwire " + input, true, () -> x.wire(1, opened, -1));
            CHECKS.refuses("not wired " + input, NoSuchElementException.class, () -> x.plan(0));
            CHECKS.answers("wire again " + input, true, () -> x.wire(1, opened, 0));
            CHECKS.answers("wired again " + input, 2, () -> x.plan(0));
        }
        ArenaPlan y = made(of(NEGATE));
        CHECKS.answers("unwire what is not wired", true, () -> y.wire(0, 0, -1));
        CHECKS.answers("unwire it again", true, () -> y.wire(0, 0, -1));
    }

    private static void wireAsItIs() {
        CHECKS.sentence("(Also the same one, and the node itself.)");
        ArenaPlan x = made(given(1), of(NEGATE, 0));
        CHECKS.answers("the same one", true, () -> x.wire(1, 0, 0));
        CHECKS.answers("the same one again", true, () -> x.wire(1, 0, 0));
        CHECKS.answers("still wired", 2, () -> x.plan(0));
        CHECKS.answers("the node itself", true, () -> x.wire(1, 0, 1));
        CHECKS.answers("the node itself again", true, () -> x.wire(1, 0, 1));
        CHECKS.answers("a ring of itself", 1, () -> x.ring(0));
    }

    private static void wireOfNoNode() {
        CHECKS.sentence("wire: False when there is no such node");
        ArenaPlan x = made(of(NEGATE), of(ADD));
        for (int wrong : new int[] {-1, 2, 11, 12, Integer.MIN_VALUE, Integer.MAX_VALUE}) {
            CHECKS.answers("wire(" + wrong + ", 0, 0)", false, () -> x.wire(wrong, 0, 0));
            CHECKS.answers("wire(" + wrong + ", 0, -1)", false, () -> x.wire(wrong, 0, -1));
        }
        CHECKS.answers("wire the last node", true, () -> x.wire(1, 0, 0));
    }

    private static void wireOfNoInput() {
        CHECKS.sentence("wire: False when there is no such [..] input");
        for (int operation = 0; operation < 8; operation++) {
            ArenaPlan x = made(given(1), new int[] {operation, 1, 1});
            for (int input : new int[] {Integer.MIN_VALUE, -1, 0, 1, 2, Integer.MAX_VALUE}) {
                boolean there = input >= 0 && input < INPUTS[operation];
                String what = "of operation " + operation + ": ";
                CHECKS.answers(what + "wire(1, " + input + ", 0)", there, () -> x.wire(1, input, 0));
                CHECKS.answers(what + "wire(1, " + input + ", -1)", there, () -> x.wire(1, input, -1));
            }
        }
    }

    private static void wireToNoSource() {
        CHECKS.sentence("wire: False when there is no such [..] source");
        ArenaPlan x = made(given(1), of(NEGATE, 0), given(1));
        for (int wrong : new int[] {-2, 3, 11, 12, Integer.MIN_VALUE, Integer.MAX_VALUE}) {
            CHECKS.answers("wire(1, 0, " + wrong + ")", false, () -> x.wire(1, 0, wrong));
        }
        CHECKS.answers("still wired as it was", 2, () -> x.plan(0));
        CHECKS.answers("wire to the last node", true, () -> x.wire(1, 0, 2));
    }

    private static void keepHoldsUntilItIsNot() {
        CHECKS.sentence("The node is KEPT, or is not.");
        ArenaPlan x = giving(made(given(1), of(NEGATE, 0), of(NEGATE, 1), of(NEGATE, 2)), 0, 8);
        CHECKS.answers("keep", true, () -> x.keep(0, true));
        CHECKS.answers("result of the kept", 8, () -> ran(x).result(0, 0));
        CHECKS.refuses("result of another", NoSuchElementException.class, () -> x.result(1, 0));
        CHECKS.answers("live to the end", 3, () -> x.about(0, LAST));
        CHECKS.answers("keep no more", true, () -> x.keep(0, false));
        CHECKS.refuses("result of the kept no more", NoSuchElementException.class, () -> ran(x).result(0, 0));
        CHECKS.answers("live as long as it is needed", 1, () -> x.about(0, LAST));
        CHECKS.answers("keep again", true, () -> x.keep(0, true));
    }

    private static void keepOfNoNode() {
        CHECKS.sentence("keep: False when there is no such node");
        ArenaPlan x = made(given(1), given(1));
        for (int wrong : new int[] {-1, 2, 11, 12, Integer.MIN_VALUE, Integer.MAX_VALUE}) {
            CHECKS.answers("keep(" + wrong + ", true)", false, () -> x.keep(wrong, true));
            CHECKS.answers("keep(" + wrong + ", false)", false, () -> x.keep(wrong, false));
        }
        CHECKS.answers("keep the last node", true, () -> x.keep(1, true));
        CHECKS.answers("keep the last of twelve", true, () -> twelve().keep(11, true));
    }

    private static void keepAsItIs() {
        CHECKS.sentence("or it is so already");
        ArenaPlan x = made(given(1), given(1));
        CHECKS.answers("not kept", false, () -> x.keep(0, false));
        CHECKS.answers("keep", true, () -> x.keep(0, true));
        CHECKS.answers("kept", false, () -> x.keep(0, true));
        CHECKS.answers("another is not", false, () -> x.keep(1, false));
        CHECKS.answers("keep no more", true, () -> x.keep(0, false));
        CHECKS.answers("kept no more", false, () -> x.keep(0, false));
    }

    private static void nodes() {
        CHECKS.sentence("How many nodes there are.");
        ArenaPlan x = new ArenaPlan();
        for (int node = 0; node < MOST_NODES; node++) {
            int before = node;
            CHECKS.answers("nodes", before, () -> x.nodes());
            x.make(before % 8, 1, 1);
        }
        CHECKS.answers("nodes", 12, () -> x.nodes());
        CHECKS.refuses("one more", UnsupportedOperationException.class, () -> x.make(GIVEN, 1, 1));
        CHECKS.answers("nodes after a refused make", 12, () -> x.nodes());
    }
}
