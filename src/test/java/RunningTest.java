import java.util.NoSuchElementException;
import java.util.function.Function;

/** Promises 14 to 16, sentence by sentence: run, cell, result. */
public final class RunningTest extends GraphChecks {
    public static void main(String[] args) {
        runWorksStepByStep();
        runBeginsAnew();
        runCountsCells();
        runWithoutAPlan();
        cellsOfTheLatestRun();
        cellsAreUsedAgain();
        cellOutsideTheArena();
        cellOfNoRun();
        resultOfTheLatestRun();
        resultOfSharedCells();
        resultOfNoRun();
        resultOfNoNode();
        resultOfOneThatIsNotKept();
        resultOfNoInt();
        CHECKS.end();
    }

    private static ArenaPlan keptPair() {
        return giving(keeping(made(given(2), of(NEGATE, 0)), 0, 1), 0, 7, 8);
    }

    private static void hasCells(String what, ArenaPlan x, int... values) {
        for (int i = 0; i < values.length; i++) {
            int asked = i;
            CHECKS.answers(what + ": cell(" + i + ")", values[i], () -> x.cell(asked));
        }
        CHECKS.refuses(what + ": cell behind", IndexOutOfBoundsException.class, () -> x.cell(values.length));
    }

    private static void runWorksStepByStep() {
        CHECKS.sentence("step by step, a node's value is worked out from the cells of its sources and put into its own cells");
        ArenaPlan x = made(of(ADD, 2, 1), of(NEGATE, 2), given(2));
        giving(x, 2, 3, 4);
        // Steps: 2, 1, 0; places: 2 from 0 on, 1 from 2 on, 0 from 4 on.
        hasCells("against the numbers", ran(x), 3, 4, -3, -4, 0, 0);
        ArenaPlan ways = giving(made(given(1), given(2), of(NEGATE, 1), of(JOIN, 0, 2)), 1, 5, 6);
        giving(ways, 0, 9);
        hasCells("way 0", ran(ways), 9, -5, -6, -5, -6, 9);
        ways.plan(1);
        ways.run();
        hasCells("way 1", ways, 9, -5, -6, -5, -6, 9);
    }

    /** That the cells are 0 before can't be seen itself: every cell of an arena is some node's. */
    private static void runBeginsAnew() {
        CHECKS.sentence("TO RUN a plan: all cells are 0");
        ArenaPlan x = keptPair();
        hasCells("first", ran(x), 7, 8, -7, -8);
        CHECKS.answers("run again", 4, () -> x.run());
        hasCells("the same again", x, 7, 8, -7, -8);
        giving(x, 0, 0, 0);
        x.run();
        hasCells("nothing is left", x, 0, 0, 0, 0);
        ArenaPlan total = giving(keeping(made(given(16), of(TOTAL, 0)), 1), 0, 1, 2, 3);
        hasResult("total", ran(total), 1, 6);
        total.run();
        hasResult("total again", total, 1, 6);
    }

    private static void runCountsCells() {
        CHECKS.sentence("Answers how many cells were put in, in all.");
        CHECKS.answers("one node", 16, () -> planned(made(given(16))).run());
        CHECKS.answers("the least", 1, () -> planned(made(given(1))).run());
        ArenaPlan x = planned(made(given(16), given(1)));
        CHECKS.answers("cells used twice count twice", 17, () -> x.run());
        CHECKS.answers("run again", 17, () -> x.run());
        CHECKS.answers("sizes of all", 16 + 8 + 32 + 40 + 1, () -> planned(withForty(of(TOTAL, 3))).run());
    }

    private static void runWithoutAPlan() {
        CHECKS.sentence("run: IllegalStateException when there is no plan.");
        CHECKS.refuses("no node", IllegalStateException.class, () -> new ArenaPlan().run());
        CHECKS.refuses("not planned", IllegalStateException.class, () -> made(given(1)).run());
        ArenaPlan x = ran(made(given(1)));
        x.make(GIVEN, 1, 0);
        CHECKS.refuses("not planned any more", IllegalStateException.class, () -> x.run());
        CHECKS.refuses("not run by this", IllegalStateException.class, () -> planned(x).cell(0));
        CHECKS.answers("planned", 2, () -> x.run());
    }

    private static void cellsOfTheLatestRun() {
        CHECKS.sentence("Cell i after the latest run.");
        ArenaPlan x = keptPair();
        hasCells("given before", ran(x), 7, 8, -7, -8);
        giving(x, 0, 70);
        hasCells("given since", x, 7, 8, -7, -8);
        x.run();
        hasCells("run since", x, 70, 8, -70, -8);
    }

    private static void cellsAreUsedAgain() {
        CHECKS.sentence("Cell i");
        ArenaPlan x = giving(made(given(2), of(TOTAL, 0), spread(2, 1)), 0, 30, 12);
        plans("arena", 3, x, 0);
        x.run();
        // 2 has the cells of 0, which was not needed any more; 1 is behind them.
        hasCells("all of them put in", x, 42, 42, 42);
        ArenaPlan part = giving(giving(made(given(3), given(1)), 0, 1, 2, 3), 1, 9);
        hasCells("one of three put in", ran(part), 9, 2, 3);
    }

    private static void cellOutsideTheArena() {
        CHECKS.sentence("IndexOutOfBoundsException when the ARENA has no cell i.");
        ArenaPlan x = ran(made(given(3)));
        for (int wrong : new int[] {-1, 3, 4, 480, Integer.MIN_VALUE, Integer.MAX_VALUE}) {
            CHECKS.refuses("cell(" + wrong + ")", IndexOutOfBoundsException.class, () -> x.cell(wrong));
        }
        CHECKS.answers("the first", 0, () -> x.cell(0));
        CHECKS.answers("the last", 0, () -> x.cell(2));
        x.make(GIVEN, 5, 0);
        CHECKS.answers("the last of a greater arena", 0, () -> ran(x).cell(4));
        CHECKS.refuses("behind it", IndexOutOfBoundsException.class, () -> x.cell(5));
    }

    private static void isNotThere(String sentence, Function<ArenaPlan, Object> question) {
        CHECKS.sentence(sentence);
        CHECKS.refuses("no node", IllegalStateException.class, () -> question.apply(new ArenaPlan()));
        CHECKS.refuses("not planned", IllegalStateException.class, () -> question.apply(keptPair()));
        ArenaPlan x = keptPair();
        CHECKS.refuses("planned", IllegalStateException.class, () -> question.apply(planned(x)));
        x.run();
        CHECKS.answers("run", 7, () -> question.apply(x));
        CHECKS.answers("asked again", 7, () -> question.apply(x));
        x.make(GIVEN, 1, 0);
        CHECKS.refuses("changed", IllegalStateException.class, () -> question.apply(x));
        CHECKS.refuses("planned again", IllegalStateException.class, () -> question.apply(planned(x)));
        x.run();
        CHECKS.answers("run again", 7, () -> question.apply(x));
    }

    private static void cellOfNoRun() {
        isNotThere("cell: IllegalStateException when there is no plan, or it was not run", x -> x.cell(0));
    }

    private static void resultOfNoRun() {
        isNotThere("result: IllegalStateException when there is no plan, or it was not run", x -> x.result(0, 0));
    }

    private static void resultOfTheLatestRun() {
        CHECKS.sentence("The int i of the value of a KEPT node after the latest run.");
        ArenaPlan x = keptPair();
        hasResult("given before", ran(x), 1, -7, -8);
        giving(x, 0, 70);
        hasResult("given since", x, 1, -7, -8);
        x.run();
        hasResult("run since", x, 1, -70, -8);
        hasResult("run since", x, 0, 70, 8);
    }

    /** Many nodes come and go in the cells beside the kept ones. */
    private static void resultOfSharedCells() {
        CHECKS.sentence("value of a KEPT node after the latest run");
        ArenaPlan x = made(given(4), of(TOTAL, 0), spread(9, 1), of(NEGATE, 2), cut(3, 2, 3), given(16), of(TOTAL, 5), of(JOIN, 4, 6));
        keeping(giving(x, 0, 1, 2, 3, 4), 0, 4, 7);
        for (int way = 0; way < 2; way++) {
            x.plan(way);
            x.run();
            hasResult("the first", x, 0, 1, 2, 3, 4);
            hasResult("within", x, 4, -10, -10);
            hasResult("the last", x, 7, -10, -10, 0);
        }
    }

    private static void resultOfNoNode() {
        CHECKS.sentence("NoSuchElementException when there is no such node");
        ArenaPlan x = ran(keptPair());
        for (int wrong : new int[] {-1, 2, 11, 12, Integer.MIN_VALUE, Integer.MAX_VALUE}) {
            CHECKS.refuses("result(" + wrong + ", 0)", NoSuchElementException.class, () -> x.result(wrong, 0));
        }
        CHECKS.answers("the last node", -7, () -> x.result(1, 0));
    }

    private static void resultOfOneThatIsNotKept() {
        CHECKS.sentence("or it is not KEPT");
        ArenaPlan x = ran(giving(keeping(made(given(1), of(NEGATE, 0)), 1), 0, 5));
        CHECKS.refuses("not kept", NoSuchElementException.class, () -> x.result(0, 0));
        CHECKS.answers("kept", -5, () -> x.result(1, 0));
        x.keep(0, true);
        x.keep(1, false);
        CHECKS.answers("kept now", 5, () -> ran(x).result(0, 0));
        CHECKS.refuses("kept no more", NoSuchElementException.class, () -> x.result(1, 0));
    }

    private static void resultOfNoInt() {
        CHECKS.sentence("result: IndexOutOfBoundsException when it has no int i.");
        ArenaPlan x = ran(keptPair());
        for (int wrong : new int[] {-1, 2, 3, 4, 39, 40, Integer.MIN_VALUE, Integer.MAX_VALUE}) {
            CHECKS.refuses("result(0, " + wrong + ")", IndexOutOfBoundsException.class, () -> x.result(0, wrong));
            CHECKS.refuses("result(1, " + wrong + ")", IndexOutOfBoundsException.class, () -> x.result(1, wrong));
        }
        CHECKS.answers("the first", 7, () -> x.result(0, 0));
        CHECKS.answers("the last", -8, () -> x.result(1, 1));
        ArenaPlan forty = ran(keeping(withForty(), 3));
        CHECKS.answers("the fortieth", 0, () -> forty.result(3, 39));
        CHECKS.refuses("behind the fortieth", IndexOutOfBoundsException.class, () -> forty.result(3, 40));
    }
}
