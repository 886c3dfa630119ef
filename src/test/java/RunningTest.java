import java.util.NoSuchElementException;

/** Promises 14 to 16: run, cell, result. */
public final class RunningTest {
    private static final Checks CHECKS = new Checks();

    public static void main(String[] args) {
        valuesOfTheOperations();
        valuesWrap();
        runCountsCells();
        runTakesWhatIsGivenThen();
        cellsAreUsedAgain();
        refusals();
        planMadeAnewWasNotRun();
        CHECKS.end();
    }

    private static void hasResult(String what, ArenaPlan x, int node, int... ints) {
        CHECKS.refuses(what + ": before the first", IndexOutOfBoundsException.class, () -> x.result(node, -1));
        for (int i = 0; i < ints.length; i++) {
            int asked = i;
            CHECKS.answers(what + ": int " + i, ints[i], () -> x.result(node, asked));
        }
        CHECKS.refuses(what + ": behind the last", IndexOutOfBoundsException.class, () -> x.result(node, ints.length));
    }

    private static void giveAll(ArenaPlan x, int node, int... ints) {
        for (int i = 0; i < ints.length; i++) {
            x.give(node, i, ints[i]);
        }
    }

    private static void makeOn(ArenaPlan x, int operation, int p, int q, int... sources) {
        int node = x.make(operation, p, q);
        for (int input = 0; input < sources.length; input++) {
            x.wire(node, input, sources[input]);
        }
        x.keep(node, true);
    }

    private static void valuesOfTheOperations() {
        ArenaPlan x = new ArenaPlan();
        makeOn(x, 0, 3, 0);
        makeOn(x, 0, 3, 0);
        makeOn(x, 1, 0, 0, 0);
        makeOn(x, 2, 0, 0, 0, 1);
        makeOn(x, 3, 0, 0, 1, 3);
        makeOn(x, 4, 0, 0, 1, 2);
        makeOn(x, 5, 2, 3, 5);
        makeOn(x, 6, 0, 0, 5);
        makeOn(x, 7, 4, 0, 7);
        makeOn(x, 4, 0, 0, 7, 0);
        makeOn(x, 3, 0, 0, 0, 0);
        giveAll(x, 0, 5, -6, 7);
        giveAll(x, 1, 10, 20, 31);
        for (int way = 0; way < 2; way++) {
            x.plan(way);
            CHECKS.answers("cells put in", 3 + 3 + 3 + 3 + 3 + 6 + 3 + 1 + 4 + 4 + 3, () -> x.run());
            hasResult("GIVEN", x, 0, 5, -6, 7);
            hasResult("GIVEN", x, 1, 10, 20, 31);
            hasResult("NEGATE", x, 2, -5, 6, -7);
            hasResult("ADD", x, 3, 15, 14, 38);
            hasResult("MULTIPLY", x, 4, 150, 280, 1178);
            hasResult("JOIN", x, 5, 10, 20, 31, -5, 6, -7);
            hasResult("CUT", x, 6, 31, -5, 6);
            hasResult("TOTAL", x, 7, 55);
            hasResult("SPREAD", x, 8, 55, 55, 55, 55);
            hasResult("JOIN of two sizes", x, 9, 55, 5, -6, 7);
            hasResult("MULTIPLY by itself", x, 10, 25, 36, 49);
        }
    }

    private static void valuesWrap() {
        ArenaPlan x = new ArenaPlan();
        makeOn(x, 0, 2, 0);
        makeOn(x, 1, 0, 0, 0);
        makeOn(x, 2, 0, 0, 0, 0);
        makeOn(x, 3, 0, 0, 0, 0);
        makeOn(x, 6, 0, 0, 0);
        giveAll(x, 0, Integer.MIN_VALUE, -1);
        x.plan(0);
        x.run();
        hasResult("NEGATE wraps", x, 1, Integer.MIN_VALUE, 1);
        hasResult("ADD wraps", x, 2, 0, -2);
        hasResult("MULTIPLY wraps", x, 3, 0, 1);
        hasResult("TOTAL wraps", x, 4, Integer.MAX_VALUE);
    }

    private static void runCountsCells() {
        ArenaPlan x = new ArenaPlan();
        x.make(0, 16, 0);
        x.plan(0);
        CHECKS.answers("one node", 16, () -> x.run());
        CHECKS.answers("run again", 16, () -> x.run());
        x.make(0, 1, 0);
        x.plan(0);
        CHECKS.answers("cells used twice count twice", 17, () -> x.run());
        CHECKS.answers("the arena has a cell 15", 0, () -> x.cell(15));
        CHECKS.refuses("the arena has no cell 16", IndexOutOfBoundsException.class, () -> x.cell(16));
    }

    private static void runTakesWhatIsGivenThen() {
        ArenaPlan x = new ArenaPlan();
        makeOn(x, 0, 1, 0);
        makeOn(x, 1, 0, 0, 0);
        x.plan(0);
        x.run();
        hasResult("first all are 0", x, 1, 0);
        x.give(0, 0, 12);
        hasResult("not run since", x, 1, 0);
        x.run();
        hasResult("run since", x, 1, -12);
    }

    private static void cellsAreUsedAgain() {
        ArenaPlan x = new ArenaPlan();
        x.make(0, 2, 0);
        x.make(6, 0, 0);
        x.make(7, 2, 0);
        x.wire(1, 0, 0);
        x.wire(2, 0, 1);
        giveAll(x, 0, 30, 12);
        CHECKS.answers("arena", 3, () -> x.plan(0));
        x.run();
        // 2 has the cells of 0, which was not needed any more; 1 is behind them.
        for (int i = 0; i < 3; i++) {
            int asked = i;
            CHECKS.answers("cell " + i, 42, () -> x.cell(asked));
        }
        CHECKS.refuses("cell 3", IndexOutOfBoundsException.class, () -> x.cell(3));
        CHECKS.refuses("cell -1", IndexOutOfBoundsException.class, () -> x.cell(-1));
        CHECKS.refuses("not kept", NoSuchElementException.class, () -> x.result(0, 0));
    }

    private static void refusals() {
        ArenaPlan x = new ArenaPlan();
        makeOn(x, 0, 2, 0);
        x.make(0, 1, 0);
        CHECKS.refuses("run, no plan", IllegalStateException.class, () -> x.run());
        CHECKS.refuses("cell, no plan", IllegalStateException.class, () -> x.cell(-1));
        CHECKS.refuses("result, no plan", IllegalStateException.class, () -> x.result(-1, -1));
        x.plan(0);
        CHECKS.refuses("cell, not run", IllegalStateException.class, () -> x.cell(0));
        CHECKS.refuses("cell -1, not run", IllegalStateException.class, () -> x.cell(-1));
        CHECKS.refuses("result, not run", IllegalStateException.class, () -> x.result(0, 0));
        CHECKS.refuses("result of no node, not run", IllegalStateException.class, () -> x.result(9, 9));
        x.run();
        for (int wrong : new int[] {-1, 2, 12, Integer.MIN_VALUE, Integer.MAX_VALUE}) {
            CHECKS.refuses("result of " + wrong, NoSuchElementException.class, () -> x.result(wrong, -1));
        }
        CHECKS.refuses("result of one that is not kept", NoSuchElementException.class, () -> x.result(1, 7));
        for (int wrong : new int[] {-1, 2, 16, Integer.MIN_VALUE, Integer.MAX_VALUE}) {
            CHECKS.refuses("result int " + wrong, IndexOutOfBoundsException.class, () -> x.result(0, wrong));
        }
        for (int wrong : new int[] {-1, 3, 480, Integer.MIN_VALUE, Integer.MAX_VALUE}) {
            CHECKS.refuses("cell " + wrong, IndexOutOfBoundsException.class, () -> x.cell(wrong));
        }
    }

    private static void planMadeAnewWasNotRun() {
        ArenaPlan x = new ArenaPlan();
        makeOn(x, 0, 1, 0);
        x.plan(0);
        x.run();
        CHECKS.refuses("plan refused", IllegalArgumentException.class, () -> x.plan(7));
        CHECKS.answers("what was run stays", 0, () -> x.cell(0));
        CHECKS.answers("plan again", 1, () -> x.plan(0));
        CHECKS.refuses("cell", IllegalStateException.class, () -> x.cell(0));
        CHECKS.refuses("result", IllegalStateException.class, () -> x.result(0, 0));
        CHECKS.answers("run", 1, () -> x.run());
        CHECKS.answers("cell", 0, () -> x.cell(0));
    }
}
