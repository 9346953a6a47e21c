/** Promises 18 to 20: weight, weights, find. */
public final class WeightTest {
    private static final Check CHECK = new Check();

    public static void main(String[] args) {
        settingWeights();
        wrongWeights();
        notFrozen();
        holding();
        sums();
        wrongQuestions();
        findingWeights();
        findingFirstOnes();
        findingNone();
        wrongBoardsForFind();
        CHECK.end();
    }

    private static void weightsAre(String when, PegBoards x, int... want) {
        for (int hole = 0; hole < want.length; hole++) {
            int what = hole + 3;
            CHECK.due(when + ": weight of hole " + hole, want[hole], () -> x.weights(what));
        }
    }

    private static void setAll(PegBoards x, int... weights) {
        for (int hole = 0; hole < weights.length; hole++) {
            x.weight(hole, weights[hole]);
        }
    }

    private static void settingWeights() {
        PegBoards x = Boards.frozen(false, "oooo");
        weightsAre("at first", x, 0, 0, 0, 0);
        CHECK.does("weight(1, 60)", Check.DONE, () -> x.weight(1, 60));
        CHECK.does("weight(3, 7)", Check.DONE, () -> x.weight(3, 7));
        weightsAre("set", x, 0, 60, 0, 7);
        CHECK.does("weight(1, 0)", Check.DONE, () -> x.weight(1, 0));
        weightsAre("set again", x, 0, 0, 0, 7);
        x.place(false, 15);
        x.place(true, 1);
        weightsAre("placed", x, 0, 0, 0, 7);
    }

    private static void wrongWeights() {
        PegBoards x = Boards.frozen(false, "oooo");
        setAll(x, 1, 2, 3, 4);
        for (int w : new int[] {Integer.MIN_VALUE, -1, 61, Integer.MAX_VALUE}) {
            CHECK.does("weight(2, " + w + ")", Check.ARGUMENT, () -> x.weight(2, w));
            CHECK.does("weight(4, " + w + ")", Check.INDEX, () -> x.weight(4, w));
        }
        for (int hole : new int[] {Integer.MIN_VALUE, -1, 4, 19, 20, Integer.MAX_VALUE}) {
            CHECK.does("weight(" + hole + ", 5)", Check.INDEX, () -> x.weight(hole, 5));
        }
        weightsAre("refused", x, 1, 2, 3, 4);
    }

    private static void notFrozen() {
        PegBoards x = Boards.drawn(false, "oooo");
        CHECK.does("drawn: weight(0, 1)", Check.INDEX, () -> x.weight(0, 1));
        CHECK.does("drawn: weight(0, 61)", Check.INDEX, () -> x.weight(0, 61));
        CHECK.due("drawn: weights(0)", 1, () -> x.weights(0));
        CHECK.due("drawn: weights(1)", 0, () -> x.weights(1));
        CHECK.due("drawn: weights(2)", 0, () -> x.weights(2));
        CHECK.thrown("drawn: weights(3)", Check.INDEX, () -> x.weights(3));
        CHECK.thrown("drawn: find()", Check.STATE, () -> x.find() ? 1 : 0);
    }

    private static void holding() {
        PegBoards x = Boards.frozen(false, "ooo");
        CHECK.due("zeros hold", 1, () -> x.weights(0));
        setAll(x, 1, 2, 3);
        CHECK.due("equal holds", 1, () -> x.weights(0));
        setAll(x, 1, 2, 4);
        CHECK.due("jump 0 raises", 0, () -> x.weights(0));
        setAll(x, 4, 2, 1);
        CHECK.due("jump 1 raises", 0, () -> x.weights(0));
        setAll(x, 60, 60, 60);
        CHECK.due("the greatest hold", 1, () -> x.weights(0));
        setAll(x, 0, 60, 0);
        CHECK.due("over may weigh much", 1, () -> x.weights(0));
        PegBoards apart = Boards.frozen(false, "oo oo");
        setAll(apart, 60, 0, 60, 0);
        CHECK.due("without jumps all hold", 1, () -> apart.weights(0));
    }

    private static void sums() {
        PegBoards x = Boards.puzzle(Boards.frozen(false, "oooo"), 11, 6);
        setAll(x, 1, 10, 20, 40);
        CHECK.due("weights(1)", 51, () -> x.weights(1));
        CHECK.due("weights(2)", 30, () -> x.weights(2));
        PegBoards full = Boards.puzzle(
                Boards.frozen(false, "ooooo", "ooooo", "ooooo", "ooooo"), (1 << 20) - 1, 1 << 19);
        for (int hole = 0; hole < 20; hole++) {
            full.weight(hole, 60);
        }
        CHECK.due("the greatest sum", 1200, () -> full.weights(1));
        CHECK.due("the last hole", 60, () -> full.weights(2));
        CHECK.due("the last weight", 60, () -> full.weights(22));
        CHECK.thrown("behind the last weight", Check.INDEX, () -> full.weights(23));
    }

    private static void wrongQuestions() {
        PegBoards x = Boards.frozen(false, "oooo");
        int[] wrong = {Integer.MIN_VALUE, Integer.MIN_VALUE + 2, Integer.MIN_VALUE + 3, -3, -1,
            7, 22, 23, Integer.MAX_VALUE};
        for (int what : wrong) {
            CHECK.thrown("weights(" + what + ")", Check.INDEX, () -> x.weights(what));
        }
    }

    private static void findIs(String when, int want, PegBoards x) {
        CHECK.due(when + ": find()", want, () -> x.find() ? 1 : 0);
    }

    private static void findingWeights() {
        // One peg can not get from the left hole of three to the right one.
        PegBoards x = Boards.puzzle(Boards.frozen(false, "ooo"), 1, 4);
        findIs("line of three", 1, x);
        weightsAre("line of three", x, 0, 1, 1);
        CHECK.due("they hold", 1, () -> x.weights(0));
        CHECK.due("the start's sum", 0, () -> x.weights(1));
        CHECK.due("the goal's sum", 1, () -> x.weights(2));
        setAll(x, 60, 60, 60);
        findIs("over other weights", 1, x);
        weightsAre("over other weights", x, 0, 1, 1);
    }

    private static void findingFirstOnes() {
        PegBoards two = Boards.puzzle(Boards.frozen(false, "oo"), 0, 3);
        findIs("the last hole counts least", 1, two);
        weightsAre("the last hole counts least", two, 0, 1);
        two.place(false, 2);
        findIs("hole 0 is needed", 1, two);
        weightsAre("hole 0 is needed", two, 1, 0);
        PegBoards three = Boards.puzzle(Boards.frozen(false, "ooo"), 2, 4);
        findIs("the middle counts for the start", 1, three);
        weightsAre("the middle counts for the start", three, 1, 0, 1);
        // Hole 3 must weigh more than 0 and 1 together, and at most 1 and 2, which is at most 1.
        PegBoards four = Boards.puzzle(Boards.frozen(false, "oooo"), 3, 8);
        findIs("a weight of 2 is needed", 1, four);
        weightsAre("a weight of 2 is needed", four, 0, 1, 1, 2);
        PegBoards mirrored = Boards.puzzle(Boards.frozen(false, "oooo"), 12, 1);
        findIs("a weight of 2 is needed in hole 0", 1, mirrored);
        weightsAre("a weight of 2 is needed in hole 0", mirrored, 2, 1, 1, 0);
        PegBoards eight = Boards.puzzle(Boards.frozen(false, "o o o o", "", "o o o o"), 0, 1);
        findIs("eight holes", 1, eight);
        weightsAre("eight holes", eight, 1, 0, 0, 0, 0, 0, 0, 0);
    }

    private static void findingNone() {
        PegBoards x = Boards.puzzle(Boards.frozen(false, "oooo"), 11, 2);
        setAll(x, 9, 8, 7, 6);
        findIs("the goal can be reached", 0, x);
        weightsAre("they stay", x, 9, 8, 7, 6);
        x.place(true, 11);
        findIs("the start is the goal", 0, x);
        x.place(true, 0);
        findIs("an empty goal", 0, x);
        weightsAre("they stay still", x, 9, 8, 7, 6);
        PegBoards fresh = Boards.frozen(false, "oooo");
        findIs("empty start and goal", 0, fresh);
        // Only weights like 0 1 1 2 3 would do.
        PegBoards five = Boards.puzzle(Boards.frozen(false, "ooooo"), 7, 16);
        findIs("a weight of 3 would be needed", 0, five);
        weightsAre("a weight of 3 would be needed", five, 0, 0, 0, 0, 0);
    }

    private static void wrongBoardsForFind() {
        PegBoards nine = Boards.puzzle(Boards.frozen(false, "ooo", "ooo", "ooo"), 0, 1);
        CHECK.thrown("nine holes", Check.STATE, () -> nine.find() ? 1 : 0);
        weightsAre("nine holes", nine, 0, 0, 0, 0, 0, 0, 0, 0, 0);
        PegBoards fresh = new PegBoards();
        CHECK.thrown("new", Check.STATE, () -> fresh.find() ? 1 : 0);
    }
}
