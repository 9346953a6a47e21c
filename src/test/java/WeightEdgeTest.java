/** The boundary cases of promises 18 to 20: one test for each sentence. */
public final class WeightEdgeTest {
    private static final Check CHECK = new Check();
    private static final int MIN = Integer.MIN_VALUE;
    private static final int MAX = Integer.MAX_VALUE;
    private static final String[] BLOCK = {"ooooo", "ooooo", "ooooo", "ooooo"};

    public static void main(String[] args) {
        aHoleGetsAWeight();
        weightWithoutSuchHole();
        weightNotFrozen();
        weightFrom0To60();
        whetherTheyHold();
        sumsOfStartAndGoal();
        weightOfAHole();
        weightsOfLessThan0();
        weightsWithoutSuchHole();
        weightsNotFrozen();
        triedAre0To2();
        triedOf8Holes();
        foundOnesHold();
        sumOfTheGoalIsGreater();
        theFirstOnes();
        theyBecomeTheWeights();
        thereAreNone();
        findBehindAnotherBoard();
        findNotFrozen();
        findWithMoreThan8();
        CHECK.end();
    }

    private static void setAll(PegBoards x, int... weights) {
        for (int hole = 0; hole < weights.length; hole++) {
            x.weight(hole, weights[hole]);
        }
    }

    private static void weightsAre(PegBoards x, int... want) {
        for (int hole = 0; hole < want.length; hole++) {
            int what = 3 + hole;
            CHECK.due("the weight of hole " + hole, want[hole], () -> x.weights(what));
        }
    }

    private static void findIs(int want, PegBoards x) {
        CHECK.due("find()", want, () -> x.find() ? 1 : 0);
    }

    private static PegBoards line(int start, int goal) {
        return Boards.puzzle(Boards.frozen(false, "ooo"), start, goal);
    }

    private static void aHoleGetsAWeight() {
        CHECK.sentence("Promise 18: A hole gets a weight");
        PegBoards x = line(0, 0);
        CHECK.does("weight(0, 60)", Check.DONE, () -> x.weight(0, 60));
        weightsAre(x, 60, 0, 0);
        CHECK.does("weight(2, 1)", Check.DONE, () -> x.weight(2, 1));
        weightsAre(x, 60, 0, 1);
        CHECK.does("weight(0, 0)", Check.DONE, () -> x.weight(0, 0));
        weightsAre(x, 0, 0, 1);
        PegBoards full = Boards.frozen(false, BLOCK);
        CHECK.does("weight(19, 60)", Check.DONE, () -> full.weight(19, 60));
        CHECK.due("weights(22)", 60, () -> full.weights(22));
    }

    private static void weightWithoutSuchHole() {
        CHECK.sentence("Promise 18: IndexOutOfBoundsException when there is no such hole");
        PegBoards x = line(0, 0);
        setAll(x, 1, 2, 3);
        for (int hole : new int[] {MIN, -1, 3, 4, 19, 20, MAX}) {
            CHECK.does("weight(" + hole + ", 5)", Check.INDEX, () -> x.weight(hole, 5));
        }
        weightsAre(x, 1, 2, 3);
        PegBoards full = Boards.frozen(false, BLOCK);
        CHECK.does("20 holes: weight(20, 5)", Check.INDEX, () -> full.weight(20, 5));
        // A weight given to no hole must not wait for the hole to come.
        x.clear(false);
        Boards.draw(x, "oooo");
        x.freeze();
        weightsAre(x, 0, 0, 0, 0);
    }

    private static void weightNotFrozen() {
        CHECK.sentence("Promise 18: none when the board is not frozen");
        PegBoards fresh = new PegBoards();
        PegBoards drawn = Boards.drawn(false, "ooo");
        CHECK.does("new: weight(0, 1)", Check.INDEX, () -> fresh.weight(0, 1));
        for (int hole = 0; hole < 3; hole++) {
            int each = hole;
            CHECK.does("drawn: weight(" + hole + ", 1)", Check.INDEX, () -> drawn.weight(each, 1));
        }
        drawn.freeze();
        weightsAre(drawn, 0, 0, 0);
    }

    private static void weightFrom0To60() {
        CHECK.sentence("Promise 18: IllegalArgumentException when w is not 0 .. 60");
        PegBoards x = line(0, 0);
        setAll(x, 1, 2, 3);
        for (int w : new int[] {MIN, -60, -1, 61, 62, 255, MAX}) {
            for (int hole = 0; hole < 3; hole++) {
                int each = hole;
                CHECK.does("weight(" + hole + ", " + w + ")", Check.ARGUMENT,
                        () -> x.weight(each, w));
            }
        }
        weightsAre(x, 1, 2, 3);
        for (int w = 0; w <= 60; w++) {
            int each = w;
            CHECK.does("weight(1, " + w + ")", Check.DONE, () -> x.weight(1, each));
            weightsAre(x, 1, w, 3);
        }
    }

    private static void whetherTheyHold() {
        CHECK.sentence("Promise 19: What = 0: whether the weights hold (1 or 0)");
        PegBoards x = line(7, 0);
        CHECK.due("zeros", 1, () -> x.weights(0));
        setAll(x, 1, 1, 2);
        CHECK.due("just no more", 1, () -> x.weights(0));
        setAll(x, 1, 1, 3);
        CHECK.due("one more", 0, () -> x.weights(0));
        PegBoards none = Boards.frozen(false, "oo");
        setAll(none, 0, 60);
        CHECK.due("without jumps", 1, () -> none.weights(0));
        CHECK.due("not frozen", 1, () -> Boards.drawn(false, "ooo").weights(0));
        CHECK.due("new", 1, () -> new PegBoards().weights(0));
    }

    private static void sumsOfStartAndGoal() {
        CHECK.sentence("Promise 19: 1 the sum of the start, 2 that of the goal");
        PegBoards x = line(5, 7);
        setAll(x, 1, 10, 60);
        CHECK.due("weights(1)", 61, () -> x.weights(1));
        CHECK.due("weights(2)", 71, () -> x.weights(2));
        Boards.puzzle(x, 0, 0);
        CHECK.due("the empty start", 0, () -> x.weights(1));
        CHECK.due("the empty goal", 0, () -> x.weights(2));
        CHECK.due("not frozen: the start", 0, () -> Boards.drawn(false, "ooo").weights(1));
        CHECK.due("not frozen: the goal", 0, () -> Boards.drawn(false, "ooo").weights(2));
    }

    private static void weightOfAHole() {
        CHECK.sentence("Promise 19: 3 + k the weight of hole k");
        PegBoards x = Boards.frozen(false, BLOCK);
        for (int hole = 0; hole < 20; hole++) {
            x.weight(hole, 60 - hole);
        }
        for (int hole = 0; hole < 20; hole++) {
            int what = 3 + hole;
            CHECK.due("weights(" + what + ")", 60 - hole, () -> x.weights(what));
        }
    }

    private static void weightsOfLessThan0() {
        CHECK.sentence("Promise 19: IndexOutOfBoundsException when what is less than 0");
        PegBoards x = line(0, 0);
        PegBoards fresh = new PegBoards();
        for (int what : new int[] {MIN, MIN + 1, MIN + 2, MIN + 3, MIN + 5, -4, -3, -2, -1}) {
            CHECK.thrown("weights(" + what + ")", Check.INDEX, () -> x.weights(what));
            CHECK.thrown("new: weights(" + what + ")", Check.INDEX, () -> fresh.weights(what));
        }
    }

    private static void weightsWithoutSuchHole() {
        CHECK.sentence("Promise 19: IndexOutOfBoundsException when there is no such hole");
        PegBoards x = line(0, 0);
        CHECK.due("weights(5)", 0, () -> x.weights(5));
        for (int what : new int[] {6, 7, 22, 23, MAX - 2, MAX}) {
            CHECK.thrown("weights(" + what + ")", Check.INDEX, () -> x.weights(what));
        }
        PegBoards full = Boards.frozen(false, BLOCK);
        CHECK.due("20 holes: weights(22)", 0, () -> full.weights(22));
        CHECK.thrown("20 holes: weights(23)", Check.INDEX, () -> full.weights(23));
    }

    private static void weightsNotFrozen() {
        CHECK.sentence("Promise 18: none when the board is not frozen; so for weights()");
        PegBoards fresh = new PegBoards();
        PegBoards drawn = Boards.drawn(false, "ooo");
        PegBoards cleared = line(3, 4);
        cleared.clear(false);
        for (int what : new int[] {3, 4, 5, 6, 22}) {
            CHECK.thrown("new: weights(" + what + ")", Check.INDEX, () -> fresh.weights(what));
            CHECK.thrown("drawn: weights(" + what + ")", Check.INDEX, () -> drawn.weights(what));
            CHECK.thrown("cleared: weights(" + what + ")", Check.INDEX,
                    () -> cleared.weights(what));
        }
    }

    private static void triedAre0To2() {
        CHECK.sentence("Promise 20: Weights 0, 1 and 2 are tried");
        PegBoards zeroAndOne = line(1, 4);
        findIs(1, zeroAndOne);
        weightsAre(zeroAndOne, 0, 1, 1);
        // From 0 and 1 to 3 each weight is at most the two before it: 0 1 1 2 does, no less.
        PegBoards two = Boards.puzzle(Boards.frozen(false, "oooo"), 3, 8);
        findIs(1, two);
        weightsAre(two, 0, 1, 1, 2);
        // Likewise 0 1 1 2 3 would do, but 3 is not tried.
        PegBoards three = Boards.puzzle(Boards.frozen(false, "ooooo"), 7, 16);
        findIs(0, three);
    }

    private static void triedOf8Holes() {
        CHECK.sentence("Promise 20: of at most 8 holes");
        PegBoards one = Boards.puzzle(Boards.frozen(false, "o"), 0, 1);
        findIs(1, one);
        weightsAre(one, 1);
        PegBoards eight = Boards.puzzle(Boards.frozen(false, "o o o o", "", "o o o o"), 0, 128);
        findIs(1, eight);
        weightsAre(eight, 0, 0, 0, 0, 0, 0, 0, 1);
        PegBoards line = Boards.puzzle(Boards.frozen(false, "oooooooo"), 1, 128);
        findIs(1, line);
        // Two zeros side by side let no other hole weigh more; so hole 1 must, and each second one.
        weightsAre(line, 0, 1, 0, 1, 0, 1, 0, 1);
    }

    private static void foundOnesHold() {
        CHECK.sentence("Promise 20: of all that hold");
        // Without holding, 0 0 1 would be the first ones.
        PegBoards x = line(0, 4);
        findIs(1, x);
        weightsAre(x, 0, 1, 1);
        CHECK.due("weights(0)", 1, () -> x.weights(0));
        // What can be reached has no greater sum with weights that hold.
        findIs(0, line(3, 4));
        findIs(0, line(6, 1));
        PegBoards free = Boards.puzzle(Boards.frozen(false, "oo o"), 0, 4);
        findIs(1, free);
        weightsAre(free, 0, 0, 1);
    }

    private static void sumOfTheGoalIsGreater() {
        CHECK.sentence("Promise 20: the sum of the goal is greater than that of the start");
        findIs(0, line(0, 0));
        findIs(0, line(7, 7));
        findIs(0, line(7, 3));
        findIs(0, line(4, 0));
        // With an equal sum 0 0 0 would do.
        PegBoards x = Boards.puzzle(Boards.frozen(false, "oo"), 1, 2);
        findIs(1, x);
        weightsAre(x, 0, 1);
        CHECK.due("weights(1)", 0, () -> x.weights(1));
        CHECK.due("weights(2)", 1, () -> x.weights(2));
    }

    private static void theFirstOnes() {
        CHECK.sentence("Promise 20: the first ones (hole 0 counts most, then hole 1, ..)");
        PegBoards two = Boards.puzzle(Boards.frozen(false, "oo"), 0, 3);
        findIs(1, two);
        weightsAre(two, 0, 1);
        PegBoards three = Boards.puzzle(Boards.frozen(false, "oo o"), 4, 3);
        findIs(1, three);
        weightsAre(three, 0, 1, 0);
        PegBoards first = Boards.puzzle(Boards.frozen(false, "oo o"), 6, 1);
        findIs(1, first);
        weightsAre(first, 1, 0, 0);
        PegBoards middle = line(2, 5);
        findIs(1, middle);
        weightsAre(middle, 1, 0, 1);
        // 0 0 1 does not hold; 0 1 0, 0 1 1 and 1 0 1 would all do.
        PegBoards both = line(0, 7);
        findIs(1, both);
        weightsAre(both, 0, 1, 0);
    }

    private static void theyBecomeTheWeights() {
        CHECK.sentence("Promise 20: become the weights: true");
        PegBoards x = line(1, 4);
        setAll(x, 60, 59, 58);
        findIs(1, x);
        weightsAre(x, 0, 1, 1);
        CHECK.due("weights(1)", 0, () -> x.weights(1));
        CHECK.due("weights(2)", 1, () -> x.weights(2));
        findIs(1, x);
        weightsAre(x, 0, 1, 1);
    }

    private static void thereAreNone() {
        CHECK.sentence("Promise 20: false when there are none, and the weights stay");
        PegBoards x = line(3, 4);
        findIs(0, x);
        weightsAre(x, 0, 0, 0);
        setAll(x, 60, 59, 58);
        findIs(0, x);
        weightsAre(x, 60, 59, 58);
        PegBoards found = line(1, 4);
        findIs(1, found);
        Boards.puzzle(found, 3, 4);
        findIs(0, found);
        weightsAre(found, 0, 1, 1);
    }

    /** The jumps of a board before must not keep weights from holding. */
    private static void findBehindAnotherBoard() {
        CHECK.sentence("Promise 20: of all that hold, behind another board");
        PegBoards x = Boards.puzzle(Boards.frozen(false, "oooooooo"), 1, 128);
        findIs(1, x);
        x.clear(false);
        Boards.draw(x, "ooo", "", "o o");
        x.freeze();
        weightsAre(x, 0, 0, 0, 0, 0);
        for (int hole = 3; hole < 5; hole++) {
            Boards.puzzle(x, 0, 1 << hole);
            findIs(1, x);
            weightsAre(x, 0, 0, 0, hole == 3 ? 1 : 0, hole == 4 ? 1 : 0);
            CHECK.due("weights(0)", 1, () -> x.weights(0));
        }
    }

    private static void findThrows(String when, PegBoards x) {
        CHECK.thrown(when + ": find()", Check.STATE, () -> x.find() ? 1 : 0);
    }

    private static void findNotFrozen() {
        CHECK.sentence("Promise 20: IllegalStateException when the board is not frozen");
        findThrows("new", new PegBoards());
        findThrows("drawn", Boards.drawn(false, "ooo"));
        findThrows("20 drawn", Boards.drawn(false, BLOCK));
        PegBoards cleared = line(1, 4);
        cleared.clear(false);
        findThrows("cleared", cleared);
    }

    private static void findWithMoreThan8() {
        CHECK.sentence("Promise 20: IllegalStateException when it has more than 8 holes");
        PegBoards nine = Boards.puzzle(Boards.frozen(false, "ooo", "ooo", "ooo"), 0, 511);
        setAll(nine, 1, 2, 3, 4, 5, 6, 7, 8, 9);
        findThrows("nine holes", nine);
        weightsAre(nine, 1, 2, 3, 4, 5, 6, 7, 8, 9);
        findThrows("20 holes", Boards.puzzle(Boards.frozen(false, BLOCK), 0, 1));
        nine.clear(false);
        Boards.draw(nine, "ooo", "ooo", "oo");
        nine.freeze();
        findIs(0, nine);
    }
}
