/** What 'Terms' says of each operation, sentence by sentence: its inputs, its size and its value. */
public final class OperationsTest extends GraphChecks {
    public static void main(String[] args) {
        given();
        negate();
        pairsOfTheSameSize(ADD);
        pairsOfTheSameSize(MULTIPLY);
        pairsInTheSamePlace();
        join();
        joinToForty();
        cut();
        cutOfWhatIsThere();
        total();
        spread();
        spreadOfOne();
        allInOneGraph();
        wrapNegate();
        wrapAdd();
        wrapMultiply();
        wrapTotal();
        CHECKS.end();
    }

    private static ArenaPlan keepingLast(ArenaPlan x) {
        return keeping(x, x.nodes() - 1);
    }

    private static void lastHasSize(String what, int size, ArenaPlan x) {
        CHECKS.answers(what + ": size", size, () -> planned(x).about(x.nodes() - 1, SIZE));
    }

    private static void doesNotFit(String what, ArenaPlan x) {
        for (int way = 0; way < 2; way++) {
            int tried = way;
            CHECKS.refuses(what + ": plan(" + way + ")", ArithmeticException.class, () -> x.plan(tried));
        }
    }

    private static void given() {
        CHECKS.sentence("0 GIVEN, no input: p ints that are given, at first 0.");
        ArenaPlan x = keeping(made(given(16), given(1), given(2)), 0, 1, 2);
        CHECKS.answers("all kept", 19, () -> x.plan(0));
        allAbout("given", x, SIZE, 16, 1, 2);
        x.run();
        hasResult("at first", x, 0, new int[16]);
        hasResult("at first", x, 1, 0);
        x.give(2, 1, 5);
        hasResult("one is given", ran(x), 2, 0, 5);
    }

    private static void negate() {
        CHECKS.sentence("1 NEGATE, one input: of each int the negative one.");
        lastHasSize("of one", 1, made(given(1), of(NEGATE, 0)));
        lastHasSize("of forty", 40, withForty(of(NEGATE, 3)));
        ArenaPlan x = giving(keepingLast(made(given(3), of(NEGATE, 0))), 0, 5, 0, -7);
        hasResult("negative", ran(x), 1, -5, 0, 7);
    }

    private static void pairsOfTheSameSize(int operation) {
        CHECKS.sentence("2 ADD and 3 MULTIPLY, two inputs of the same size");
        lastHasSize("one and one", 1, made(given(1), given(1), of(operation, 0, 1)));
        lastHasSize("sixteen and sixteen", 16, made(given(16), given(16), of(operation, 0, 1)));
        lastHasSize("forty and forty", 40, withForty(of(operation, 3, 3)));
        lastHasSize("of other operations", 2, made(given(5), cut(1, 2, 0), given(2), of(operation, 2, 1)));
        doesNotFit("the second greater", made(given(15), given(16), of(operation, 0, 1)));
        doesNotFit("the first greater", made(given(2), given(1), of(operation, 0, 1)));
        doesNotFit("one and many", made(given(1), given(16), of(operation, 0, 1)));
        doesNotFit("thirty-nine and forty", withForty(given(7), of(JOIN, 2, 4), of(operation, 5, 3)));
    }

    private static void pairsInTheSamePlace() {
        CHECKS.sentence("the sums, the products, of those in the same place");
        ArenaPlan x = keeping(made(given(3), given(3), of(ADD, 0, 1), of(MULTIPLY, 0, 1), of(MULTIPLY, 0, 0)), 2, 3, 4);
        giving(x, 0, 5, -6, 7);
        giving(x, 1, 10, 20, 0);
        hasResult("sums", ran(x), 2, 15, 14, 7);
        hasResult("products", x, 3, 50, -120, 0);
        hasResult("by itself", x, 4, 25, 36, 49);
    }

    private static void join() {
        CHECKS.sentence("4 JOIN, two inputs: the ints of the first and behind them those of the second");
        ArenaPlan x = keeping(made(given(1), given(3), of(JOIN, 0, 1), of(JOIN, 1, 0), of(JOIN, 0, 0)), 2, 3, 4);
        giving(x, 0, 9);
        giving(x, 1, 1, 2, 3);
        hasResult("one and three", ran(x), 2, 9, 1, 2, 3);
        hasResult("three and one", x, 3, 1, 2, 3, 9);
        hasResult("itself twice", x, 4, 9, 9);
    }

    private static void joinToForty() {
        CHECKS.sentence("4 JOIN [..] at most 40");
        lastHasSize("forty", 40, withForty());
        lastHasSize("one and one", 2, made(given(1), of(JOIN, 0, 0)));
        lastHasSize("thirty-nine and one", 40, withForty(given(7), of(JOIN, 2, 4), given(1), of(JOIN, 5, 6)));
        doesNotFit("thirty-two and nine", made(given(16), given(9), of(JOIN, 0, 0), of(JOIN, 2, 1)));
        doesNotFit("forty and one", withForty(given(1), of(JOIN, 3, 4)));
        doesNotFit("one and forty", withForty(given(1), of(JOIN, 4, 3)));
        doesNotFit("forty and forty", withForty(of(JOIN, 3, 3)));
        ArenaPlan x = keepingLast(giving(withForty(of(NEGATE, 3)), 1, 0, 0, 0, 0, 0, 0, 0, 5));
        CHECKS.answers("the fortieth int", -5, () -> ran(x).result(4, 39));
    }

    private static void cut() {
        CHECKS.sentence("5 CUT, one input: its q ints from the one with the number p on (0 the first)");
        ArenaPlan x = keeping(made(given(5), cut(0, 1, 0), cut(1, 3, 0), cut(4, 1, 0), cut(0, 5, 0)), 1, 2, 3, 4);
        giving(x, 0, 10, 11, 12, 13, 14);
        hasResult("the first", ran(x), 1, 10);
        hasResult("from within", x, 2, 11, 12, 13);
        hasResult("the last", x, 3, 14);
        hasResult("all", x, 4, 10, 11, 12, 13, 14);
    }

    private static void cutOfWhatIsThere() {
        CHECKS.sentence("5 CUT [..] it must have them");
        lastHasSize("the only", 1, made(given(1), cut(0, 1, 0)));
        lastHasSize("all of sixteen", 16, made(given(16), cut(0, 16, 0)));
        lastHasSize("the fortieth", 1, withForty(cut(39, 1, 3)));
        lastHasSize("the last sixteen of forty", 16, withForty(cut(24, 16, 3)));
        doesNotFit("all of sixteen but from the second", made(given(16), cut(1, 16, 0)));
        doesNotFit("two of one", made(given(1), cut(0, 2, 0)));
        doesNotFit("from behind the last", made(given(3), cut(3, 1, 0)));
        doesNotFit("from far behind the last", made(given(3), cut(39, 1, 0)));
        doesNotFit("the last seventeen of forty", withForty(cut(25, 16, 3)));
        doesNotFit("two from the fortieth", withForty(cut(39, 2, 3)));
        doesNotFit("what no node can have", withForty(cut(39, 16, 3)));
    }

    private static void total() {
        CHECKS.sentence("6 TOTAL, one input: the sum of all, one int.");
        lastHasSize("of one", 1, made(given(1), of(TOTAL, 0)));
        lastHasSize("of forty", 1, withForty(of(TOTAL, 3)));
        ArenaPlan one = keepingLast(giving(made(given(1), of(TOTAL, 0)), 0, -3));
        hasResult("of one", ran(one), 1, -3);
        ArenaPlan x = keepingLast(withForty(of(TOTAL, 3)));
        giving(x, 0, 1, 0, 0, 0, 0, 0, 0, 0, 0, 0, 0, 0, 0, 0, 0, 10);
        giving(x, 1, 100, 0, 0, 0, 0, 0, 0, 1000);
        hasResult("of forty", ran(x), 4, 1122);
    }

    private static void spread() {
        CHECKS.sentence("7 SPREAD [..] p ints, all of them this one");
        ArenaPlan x = keeping(made(given(1), spread(1, 0), spread(16, 0)), 1, 2);
        giving(x, 0, 4);
        hasResult("one", ran(x), 1, 4);
        hasResult("sixteen", x, 2, 4, 4, 4, 4, 4, 4, 4, 4, 4, 4, 4, 4, 4, 4, 4, 4);
    }

    private static void spreadOfOne() {
        CHECKS.sentence("7 SPREAD, one input of size 1");
        lastHasSize("of a total", 16, made(given(9), of(TOTAL, 0), spread(16, 1)));
        lastHasSize("of a cut", 3, made(given(9), cut(8, 1, 0), spread(3, 1)));
        doesNotFit("of two", made(given(2), spread(1, 0)));
        doesNotFit("of as many", made(given(2), spread(2, 0)));
        doesNotFit("of forty", withForty(spread(16, 3)));
    }

    private static void allInOneGraph() {
        ArenaPlan x = made(given(3), given(3), of(NEGATE, 0), of(ADD, 0, 1), of(MULTIPLY, 1, 3), of(JOIN, 1, 2),
            cut(2, 3, 5), of(TOTAL, 5), spread(4, 7), of(JOIN, 7, 0), of(MULTIPLY, 0, 0));
        for (int node = 0; node < x.nodes(); node++) {
            x.keep(node, true);
        }
        giving(x, 0, 5, -6, 7);
        giving(x, 1, 10, 20, 31);
        for (int way = 0; way < 2; way++) {
            x.plan(way);
            x.run();
            hasResult("NEGATE", x, 2, -5, 6, -7);
            hasResult("ADD", x, 3, 15, 14, 38);
            hasResult("MULTIPLY", x, 4, 150, 280, 1178);
            hasResult("JOIN", x, 5, 10, 20, 31, -5, 6, -7);
            hasResult("CUT", x, 6, 31, -5, 6);
            hasResult("TOTAL", x, 7, 55);
            hasResult("SPREAD", x, 8, 55, 55, 55, 55);
            hasResult("JOIN of two sizes", x, 9, 55, 5, -6, 7);
            hasResult("MULTIPLY by itself", x, 10, 25, 36, 49);
        }
    }

    private static void wrapNegate() {
        CHECKS.sentence("ints wrap: NEGATE");
        ArenaPlan x = keepingLast(made(given(3), of(NEGATE, 0)));
        giving(x, 0, Integer.MIN_VALUE, Integer.MAX_VALUE, Integer.MIN_VALUE + 1);
        hasResult("wrapped", ran(x), 1, Integer.MIN_VALUE, Integer.MIN_VALUE + 1, Integer.MAX_VALUE);
    }

    private static void wrapAdd() {
        CHECKS.sentence("ints wrap: ADD");
        ArenaPlan x = keepingLast(made(given(4), given(4), of(ADD, 0, 1)));
        giving(x, 0, Integer.MAX_VALUE, Integer.MIN_VALUE, Integer.MIN_VALUE, Integer.MAX_VALUE);
        giving(x, 1, 1, -1, Integer.MIN_VALUE, Integer.MAX_VALUE);
        hasResult("wrapped", ran(x), 2, Integer.MIN_VALUE, Integer.MAX_VALUE, 0, -2);
    }

    private static void wrapMultiply() {
        CHECKS.sentence("ints wrap: MULTIPLY");
        ArenaPlan x = keepingLast(made(given(5), given(5), of(MULTIPLY, 0, 1)));
        giving(x, 0, Integer.MAX_VALUE, Integer.MIN_VALUE, 65536, 46341, Integer.MIN_VALUE);
        giving(x, 1, 2, -1, 65536, 46341, Integer.MIN_VALUE);
        hasResult("wrapped", ran(x), 2, -2, Integer.MIN_VALUE, 0, -2147479015, 0);
    }

    private static void wrapTotal() {
        CHECKS.sentence("ints wrap: TOTAL");
        ArenaPlan x = keeping(made(given(2), of(TOTAL, 0), given(3), of(TOTAL, 2)), 1, 3);
        giving(x, 0, Integer.MAX_VALUE, 1);
        giving(x, 2, Integer.MIN_VALUE, -1, 1);
        hasResult("wrapped", ran(x), 1, Integer.MIN_VALUE);
        hasResult("wrapped and back", x, 3, Integer.MIN_VALUE);
    }
}
