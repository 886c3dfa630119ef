/** What 'Terms' says of LIVE, COST, PEAK, PLACES and ARENA, sentence by sentence. */
public final class PlacesTest extends GraphChecks {
    public static void main(String[] args) {
        liveFromItsStep();
        liveToTheLastThatNeedsIt();
        liveAtItsOwnStepAlone();
        keptToTheLastStepOfAll();
        costOfAllThatIsLive();
        peakIsTheGreatest();
        greatestSizeFirst();
        sameSizeBySteps();
        leastNumberFromZero();
        cellsThatTouch();
        stepsThatTouch();
        arenaHasAll();
        arenaAbovePeak();
        greatestArena();
        CHECKS.end();
    }

    private static void hasPlaces(String what, ArenaPlan x, int... places) {
        allAbout(what, planned(x), PLACE, places);
    }

    private static void livesTo(String what, ArenaPlan x, int... steps) {
        allAbout(what, planned(x), LAST, steps);
    }

    private static void liveFromItsStep() {
        CHECKS.sentence("A node is LIVE from its step");
        hasCosts("nodes alone", planned(made(given(3), given(5), given(2))), 3, 5, 2);
        hasCosts("a source before", planned(made(of(NEGATE, 1), given(4))), 4, 8);
        hasCosts("the last is kept", planned(keeping(made(given(3), given(5)), 1)), 3, 5);
    }

    private static void liveToTheLastThatNeedsIt() {
        CHECKS.sentence("to the last step of a node that depends on it");
        livesTo("one that depends", made(given(1), given(1), of(NEGATE, 0), given(1)), 2, 1, 2, 3);
        livesTo("two that depend", made(given(1), of(NEGATE, 0), of(NEGATE, 1), of(NEGATE, 0), given(1)), 3, 2, 2, 3, 4);
        livesTo("the last has the least number", made(of(ADD, 1, 2), of(NEGATE, 2), given(1)), 2, 2, 2);
        livesTo("the last in the middle", made(of(NEGATE, 3), of(ADD, 2, 3), of(NEGATE, 3), given(1), given(1)), 1, 3, 3, 3, 4);
        livesTo("by first and second inputs", made(given(1), given(1), of(ADD, 0, 1), of(ADD, 2, 0)), 3, 2, 3, 3);
        livesTo("not for what depends on these", made(given(1), of(NEGATE, 0), of(NEGATE, 1), of(NEGATE, 2)), 1, 2, 3, 3);
        hasCosts("the last step counts", planned(made(given(4), of(NEGATE, 0), of(TOTAL, 1))), 4, 8, 5);
    }

    private static void liveAtItsOwnStepAlone() {
        CHECKS.sentence("(its own, if there is none)");
        ArenaPlan x = made(given(1), of(NEGATE, 0), given(16), of(NEGATE, 1));
        livesTo("nobody needs 2 and 3", x, 1, 3, 2, 3);
        hasCosts("nobody needs 2 and 3", x, 1, 2, 17, 2);
        livesTo("one node", made(given(1)), 0);
    }

    private static void keptToTheLastStepOfAll() {
        CHECKS.sentence("a KEPT one to the last step of all");
        int[][] nodes = {given(4), of(NEGATE, 0), of(TOTAL, 1), given(2), of(TOTAL, 3)};
        livesTo("none", made(nodes), 1, 2, 2, 4, 4);
        ArenaPlan nobodyNeeds = keeping(made(nodes), 2);
        livesTo("that nobody needs", nobodyNeeds, 1, 2, 4, 4, 4);
        hasCosts("that nobody needs", nobodyNeeds, 4, 8, 5, 3, 4);
        ArenaPlan first = keeping(made(nodes), 0);
        livesTo("the first", first, 4, 2, 2, 4, 4);
        hasCosts("the first", first, 4, 8, 9, 6, 7);
        livesTo("the last", keeping(made(nodes), 4), 1, 2, 2, 4, 4);
        ArenaPlan all = keeping(made(nodes), 0, 1, 2, 3, 4);
        livesTo("all", all, 4, 4, 4, 4, 4);
        hasCosts("all", all, 4, 8, 9, 11, 12);
        livesTo("against the numbers", keeping(made(of(NEGATE, 2), given(1), given(1)), 2, 0), 2, 0, 2);
    }

    private static void costOfAllThatIsLive() {
        CHECKS.sentence("The COST of a step is the sum of the sizes of all nodes live then");
        hasCosts("one", planned(made(given(16))), 16);
        hasCosts("two sources and a node", planned(made(given(5), given(3), of(JOIN, 0, 1))), 5, 8, 16);
        hasCosts("one source twice", planned(made(given(5), of(JOIN, 0, 0))), 5, 15);
        hasCosts("forty", planned(withForty(of(NEGATE, 3))), 16, 24, 56, 80, 80);
        ArenaPlan ways = made(given(1), given(2), of(NEGATE, 1), of(JOIN, 0, 2));
        hasCosts("way 0", planned(ways), 1, 3, 5, 6);
        ways.plan(1);
        hasCosts("way 1", ways, 2, 4, 3, 6);
    }

    private static void peakIsTheGreatest() {
        CHECKS.sentence("the PEAK of an order the greatest cost");
        CHECKS.answers("one step", 7, () -> planned(made(given(7))).peak());
        CHECKS.answers("at the first", 16, () -> planned(made(given(16), given(1), given(2))).peak());
        CHECKS.answers("within", 17, () -> planned(made(given(1), of(NEGATE, 0), given(16), of(NEGATE, 1))).peak());
        CHECKS.answers("at the last", 6, () -> planned(made(given(1), given(2), of(JOIN, 0, 1))).peak());
        CHECKS.answers("not the arena", 4, () -> planned(made(given(1), given(3), of(TOTAL, 0), spread(3, 2))).peak());
    }

    private static void greatestSizeFirst() {
        CHECKS.sentence("the nodes get places by their sizes, the greatest first");
        hasPlaces("the last is the greatest", made(given(1), given(2), of(JOIN, 0, 1)), 5, 3, 0);
        hasPlaces("the first is the greatest", made(given(3), of(TOTAL, 0)), 0, 3);
        hasPlaces("the middle one", keeping(made(given(2), given(4), given(3)), 0, 1, 2), 7, 0, 4);
        int[][] nodes = {given(2), given(5), of(JOIN, 0, 1), given(5), of(JOIN, 3, 0)};
        // By sizes 2 and 4 (7), 1 and 3 (5), 0: 2 is live at step 2 alone, 4 at step 4.
        hasPlaces("sharing", made(nodes), 12, 7, 0, 7, 0);
    }

    private static void sameSizeBySteps() {
        CHECKS.sentence("those of the same size by their steps");
        hasPlaces("steps as numbers", keeping(made(given(2), given(2), given(2)), 0, 1, 2), 0, 2, 4);
        hasPlaces("steps against numbers", made(of(NEGATE, 1), given(2)), 2, 0);
        ArenaPlan x = made(given(1), given(1), of(ADD, 1, 0));
        hasPlaces("way 0", x, 0, 1, 2);
        x.plan(1);
        allAbout("way 1", x, PLACE, 1, 0, 2);
        hasPlaces("a greater one between", made(of(NEGATE, 2), of(JOIN, 2, 2), given(1)), 0, 0, 2);
    }

    private static void leastNumberFromZero() {
        CHECKS.sentence("the least number o, 0 or more");
        hasPlaces("all by themselves", made(given(1), given(16), given(3)), 0, 0, 0);
        hasPlaces("one after the other", keeping(made(given(3), given(2), given(1)), 0, 1, 2), 0, 3, 5);
        int[][] below = {given(3), given(3), of(TOTAL, 0), given(3), of(ADD, 3, 1), of(TOTAL, 4), given(2)};
        // By steps 0, 1, 3, 4 (3), then 6 (2), then 2 and 5 (1), which are kept.
        hasPlaces("below others", keeping(made(below), 2, 5), 0, 3, 9, 0, 6, 2, 0);
    }

    /** Node 3 is put below node 1, so that cells 4 and 5 are free between them when node 4 comes. */
    private static ArenaPlan withGapOfTwo(int size) {
        return keeping(made(given(6), given(5), of(TOTAL, 0), given(4), given(size)), 1, 3);
    }

    private static void cellsThatTouch() {
        CHECKS.sentence("the cells o .. o + size - 1 are none of those of a node that has its place already");
        hasPlaces("less than the gap", withGapOfTwo(1), 0, 6, 11, 0, 4);
        hasPlaces("all of the gap", withGapOfTwo(2), 0, 6, 11, 0, 4);
        hasPlaces("one more than the gap", withGapOfTwo(3), 0, 6, 11, 0, 11);
        hasPlaces("right behind", made(given(4), of(NEGATE, 0)), 0, 4);
        hasPlaces("right behind two", made(given(4), given(1), of(JOIN, 0, 1)), 5, 9, 0);
    }

    private static void stepsThatTouch() {
        CHECKS.sentence("and is live at a step at which this one is live, too");
        hasPlaces("the last step of one is the first of the other", made(given(2), of(NEGATE, 0)), 0, 2);
        hasPlaces("the step behind the last", made(given(2), of(NEGATE, 0), of(NEGATE, 1)), 0, 2, 0);
        hasPlaces("the step before the first", made(given(1), given(3)), 0, 0);
        hasPlaces("within the other's time", keeping(made(given(3), given(2), given(1)), 0), 0, 3, 3);
        hasPlaces("the other within its time", keeping(made(given(1), given(3)), 0), 3, 0);
        hasPlaces("all the time", keeping(made(given(1), given(1)), 0, 1), 0, 1);
    }

    private static void arenaHasAll() {
        CHECKS.sentence("The ARENA is the least number of cells, from 0 on, that has all these.");
        plans("one cell", 1, made(given(1)), 0);
        plans("one node", 16, made(given(16)), 0);
        plans("shared", 16, made(given(16), given(1)), 0);
        plans("side by side", 17, keeping(made(given(16), given(1)), 0), 0);
        plans("the first placed is not the last cell", 6, made(given(1), given(2), of(JOIN, 0, 1)), 0);
        plans("the last placed is below", 12, withGapOfTwo(2), 0);
        plans("the last placed is above", 14, withGapOfTwo(3), 0);
        ArenaPlan ways = made(given(1), given(1), given(1), given(1), of(ADD, 0, 1), of(ADD, 2, 3), of(ADD, 4, 5));
        plans("by numbers", 5, ways, 0);
        plans("by labels", 4, ways, 1);
    }

    private static void arenaAbovePeak() {
        ArenaPlan x = made(given(1), given(3), of(TOTAL, 0), spread(3, 2));
        plans("above the peak", 5, x, 0);
        // 1 and 3 have the same cells; 0 meets 1, 2 meets 3, and at step 2 they meet each other.
        hasPlaces("above the peak", x, 3, 0, 4, 0);
        hasCosts("above the peak", x, 1, 4, 2, 4);
    }

    private static void greatestArena() {
        ArenaPlan x = withForty(of(NEGATE, 3), of(NEGATE, 3), of(NEGATE, 3), of(NEGATE, 3), of(NEGATE, 3), of(NEGATE, 3),
            of(NEGATE, 3), of(NEGATE, 3));
        for (int node = 0; node < MOST_NODES; node++) {
            x.keep(node, true);
        }
        plans("twelve kept", 416, x, 0);
        allAbout("twelve kept", x, PLACE, 392, 408, 360, 0, 40, 80, 120, 160, 200, 240, 280, 320);
        CHECKS.answers("its peak", 416, () -> x.peak());
        CHECKS.answers("its least peak", 416, () -> x.least());
        CHECKS.answers("cells put in", 416, () -> x.run());
        CHECKS.answers("its last cell", 0, () -> x.cell(415));
        CHECKS.refuses("none behind", IndexOutOfBoundsException.class, () -> x.cell(416));
    }
}
