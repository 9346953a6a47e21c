/** The boundary cases of reaching and of promises 9 to 13: one test for each sentence. */
public final class ReachingEdgeTest {
    private static final Check CHECK = new Check();
    private static final int NONE = PegBoards.NONE;
    private static final int LIMIT = PegBoards.LIMIT;
    private static final int[] WRONG_LIMITS =
            {Integer.MIN_VALUE, -500, -1, 0, 501, 502, 1 << 20, Integer.MAX_VALUE};
    private static final String[] TRIANGLE = {"    o", "   oo", "  ooo", " oooo", "ooooo"};
    /** Starts on the triangle from which 499, 500 and 501 positions can be reached. */
    private static final int TO_499 = 4051;
    private static final int TO_500 = 2783;
    private static final int TO_501 = 2811;

    public static void main(String[] args) {
        theStartIsFound();
        foundOnce();
        foundInOrder();
        limitFrom1To500();
        oneMoreThanTheLimit();
        oneMoreThan500();
        countOfPositions();
        countOfTheLimit();
        solveOfAGoal();
        solveOfNoGoal();
        solveOfTheLimit();
        wayByNumbers();
        wayNotFound();
        wayWithoutSuchJump();
        movesOfSolutions();
        movesOfTheLimit();
        movesWithoutSolution();
        classesOfLeasts();
        classesOfTheLimit();
        notFrozen();
        wrongLimits();
        CHECK.end();
    }

    private static PegBoards line(int start, int goal) {
        // The jumps: 0 1 2, 1 2 3, 2 1 0, 3 2 1.
        return Boards.puzzle(Boards.frozen(false, "oooo"), start, goal);
    }

    private static PegBoards triangle(int start, int goal) {
        return Boards.puzzle(Boards.frozen(true, TRIANGLE), start, goal);
    }

    private static void theStartIsFound() {
        CHECK.sentence("REACHING: the start is 0");
        CHECK.due("empty: count(1)", 1, () -> line(0, 0).count(1));
        CHECK.due("full: count(1)", 1, () -> line(15, 0).count(1));
        CHECK.due("full: solve(1) of itself", 1, () -> line(15, 15).solve(1));
        CHECK.due("with jumps: solve(1) of itself", 1, () -> line(11, 11).solve(1));
        CHECK.due("one hole: count(1)", 1,
                () -> Boards.puzzle(Boards.frozen(true, "o"), 1, 0).count(1));
        PegBoards x = line(11, 2);
        CHECK.due("count(500) from 11", 3, () -> x.count(500));
        x.place(false, 15);
        CHECK.due("count(500) from 15, where nothing is found but it", 1, () -> x.count(500));
        CHECK.due("solve(500) from 15, of what was found before", 0, () -> x.solve(500));
        x.place(false, 12);
        CHECK.due("count(500) from 12", 2, () -> x.count(500));
    }

    private static void foundOnce() {
        CHECK.sentence("REACHING: each position that was not found yet is the next one");
        // Two jumps far apart, in either order: four positions, the last one by two ways.
        PegBoards x = Boards.puzzle(Boards.frozen(false, "ooo ooo"), 3 + 8 + 16, 4 + 32);
        CHECK.due("count(500)", 4, () -> x.count(500));
        CHECK.due("count(4)", 4, () -> x.count(4));
        CHECK.due("count(3)", LIMIT, () -> x.count(3));
    }

    private static void foundInOrder() {
        CHECK.sentence("REACHING: gone through by number, in each all jumps that can be made by"
                + " number");
        // From 27 by jump 0 to 28, by jump 2 to 35, from 28 by jump 2 to 36.
        PegBoards x = Boards.puzzle(Boards.frozen(false, "ooo ooo"), 27, 28);
        CHECK.due("28 is the second", 1, () -> x.solve(2));
        x.place(true, 35);
        CHECK.due("35 is not the second", LIMIT, () -> x.solve(2));
        CHECK.due("35 is the third", 1, () -> x.solve(3));
        x.place(true, 36);
        CHECK.due("36 is not the third", LIMIT, () -> x.solve(3));
        CHECK.due("36 is the fourth", 1, () -> x.solve(4));
        CHECK.due("36 comes by the less jump first", 0, () -> x.way(4, 0));
        CHECK.due("and then by the other", 2, () -> x.way(4, 1));
    }

    private static void limitFrom1To500() {
        CHECK.sentence("REACHING: It is done within a LIMIT (1 .. 500) of so many positions");
        PegBoards x = line(0, 0);
        for (int limit = 1; limit <= 500; limit++) {
            int each = limit;
            CHECK.due("count(" + limit + ")", 1, () -> x.count(each));
        }
    }

    private static void oneMoreThanTheLimit() {
        CHECK.sentence("REACHING: if there would be one more, it ends there, and the limit is met");
        PegBoards three = line(11, 2);
        CHECK.due("three positions: count(4)", 3, () -> three.count(4));
        CHECK.due("three positions: count(3)", 3, () -> three.count(3));
        CHECK.due("three positions: count(2)", LIMIT, () -> three.count(2));
        CHECK.due("three positions: count(1)", LIMIT, () -> three.count(1));
        // The jump that meets the limit leads to a new position; one to a found one does not.
        PegBoards again = Boards.puzzle(Boards.frozen(false, "ooo ooo"), 27, 0);
        CHECK.due("a found position is not one more", 4, () -> again.count(4));
    }

    private static void oneMoreThan500() {
        CHECK.sentence("REACHING: LIMIT (1 .. 500), at 500 positions");
        CHECK.due("499: count(500)", 499, () -> triangle(TO_499, 0).count(500));
        CHECK.due("499: count(499)", 499, () -> triangle(TO_499, 0).count(499));
        CHECK.due("499: count(498)", LIMIT, () -> triangle(TO_499, 0).count(498));
        CHECK.due("500: count(500)", 500, () -> triangle(TO_500, 0).count(500));
        CHECK.due("500: count(499)", LIMIT, () -> triangle(TO_500, 0).count(499));
        CHECK.due("501: count(500)", LIMIT, () -> triangle(TO_501, 0).count(500));
        PegBoards square = Boards.frozen(false, "ooooo", "ooooo", "ooooo");
        CHECK.due("square 499", 499, () -> Boards.puzzle(square, 14831, 0).count(500));
        CHECK.due("square 500", 500, () -> Boards.puzzle(square, 15099, 0).count(500));
        CHECK.due("square 501", LIMIT, () -> Boards.puzzle(square, 12282, 0).count(500));
    }

    private static void countOfPositions() {
        CHECK.sentence("Promise 9: How many positions can be reached");
        CHECK.due("of the empty start", 1, () -> line(0, 0).count(500));
        CHECK.due("of the full start", 1, () -> line(15, 0).count(500));
        CHECK.due("of a start with jumps", 3, () -> line(11, 0).count(500));
        CHECK.due("the goal is not asked", 3, () -> line(11, 11).count(500));
    }

    private static void countOfTheLimit() {
        CHECK.sentence("Promise 9: LIMIT when that is met");
        CHECK.due("count(2)", LIMIT, () -> line(11, 0).count(2));
        CHECK.due("count(1)", LIMIT, () -> line(3, 0).count(1));
        PegBoards full = Boards.puzzle(
                Boards.frozen(false, "ooooo", "ooooo", "ooooo", "ooooo"), (1 << 20) - 2, 0);
        CHECK.due("20 holes: count(500)", LIMIT, () -> full.count(500));
        CHECK.due("20 holes: count(1)", LIMIT, () -> full.count(1));
    }

    private static void solveOfAGoal() {
        CHECK.sentence("Promise 10: Whether the goal is found: 1");
        CHECK.due("the start itself", 1, () -> line(11, 11).solve(500));
        CHECK.due("the last position", 1, () -> line(11, 2).solve(500));
        CHECK.due("within the limit", 1, () -> line(11, 12).solve(2));
        CHECK.due("the start within 1", 1, () -> line(11, 11).solve(1));
        CHECK.due("the 500th of 500", 1, () -> triangle(TO_500, 4).solve(500));
        CHECK.due("the 500th of 501", 1, () -> triangle(TO_501, 128).solve(500));
    }

    private static void solveOfNoGoal() {
        CHECK.sentence("Promise 10: otherwise 0");
        CHECK.due("from the empty start", 0, () -> line(0, 1).solve(1));
        CHECK.due("the empty goal", 0, () -> line(11, 0).solve(500));
        CHECK.due("more pegs", 0, () -> line(11, 15).solve(500));
        CHECK.due("as many pegs", 0, () -> line(11, 13).solve(500));
        CHECK.due("a just sufficient limit", 0, () -> line(11, 4).solve(3));
        CHECK.due("500 positions", 0, () -> triangle(TO_500, 0).solve(500));
    }

    private static void solveOfTheLimit() {
        CHECK.sentence("Promise 10: or LIMIT when that is met");
        CHECK.due("behind the limit", LIMIT, () -> line(11, 2).solve(2));
        CHECK.due("behind a limit of 1", LIMIT, () -> line(11, 12).solve(1));
        CHECK.due("no goal at all", LIMIT, () -> line(11, 4).solve(2));
        CHECK.due("more pegs", LIMIT, () -> line(11, 15).solve(2));
        CHECK.due("the 501st of 501", LIMIT, () -> triangle(TO_501, 8192).solve(500));
    }

    private static void wayIs(PegBoards x, int limit, int... want) {
        for (int i = 0; i < want.length; i++) {
            int each = i;
            CHECK.due("way(" + limit + ", " + i + ")", want[i], () -> x.way(limit, each));
        }
        CHECK.due("behind the way", NONE, () -> x.way(limit, want.length));
    }

    private static void wayByNumbers() {
        CHECK.sentence("Promise 11: Jump i (from 0) of the way to the goal");
        wayIs(line(11, 2), 500, 0, 3);
        wayIs(line(11, 2), 3, 0, 3);
        wayIs(line(11, 12), 2, 0);
        wayIs(triangle(TO_500, 4), 500, 0, 2, 13, 16, 26, 33, 6, 23);
        wayIs(triangle(TO_501, 128), 500, 2, 17, 1, 7, 23, 26, 33, 5);
    }

    private static void wayNotFound() {
        CHECK.sentence("Promise 11: NONE when it is not found");
        for (int i : new int[] {Integer.MIN_VALUE, -1, 0, 1, Integer.MAX_VALUE}) {
            CHECK.due("no goal: way(500, " + i + ")", NONE, () -> line(11, 4).way(500, i));
            CHECK.due("more pegs: way(500, " + i + ")", NONE, () -> line(11, 15).way(500, i));
            CHECK.due("fewer pegs: way(500, " + i + ")", NONE, () -> line(11, 0).way(500, i));
            CHECK.due("the limit is met: way(2, " + i + ")", NONE, () -> line(11, 2).way(2, i));
            CHECK.due("the limit is met: way(1, " + i + ")", NONE, () -> line(11, 12).way(1, i));
        }
        CHECK.due("the 501st position", NONE, () -> triangle(TO_501, 8192).way(500, 0));
    }

    private static void wayWithoutSuchJump() {
        CHECK.sentence("Promise 11: NONE when there is none such");
        PegBoards x = line(11, 2);
        for (int i : new int[] {Integer.MIN_VALUE, -500, -2, -1, 2, 3, 499, 500, 501,
            Integer.MAX_VALUE}) {
            CHECK.due("way(500, " + i + ")", NONE, () -> x.way(500, i));
        }
        PegBoards there = line(11, 11);
        CHECK.due("the start is the goal: way(500, 0)", NONE, () -> there.way(500, 0));
        CHECK.due("the start is the goal: way(1, 0)", NONE, () -> there.way(1, 0));
        CHECK.due("the start is the goal: way(500, -1)", NONE, () -> there.way(500, -1));
    }

    private static void movesOfSolutions() {
        CHECK.sentence("Promise 12: The least number of moves of all solutions");
        CHECK.due("the start is the goal", 0, () -> line(11, 11).moves(500));
        CHECK.due("empty ones", 0, () -> line(0, 0).moves(1));
        CHECK.due("one jump", 1, () -> line(3, 4).moves(2));
        CHECK.due("two moves", 2, () -> line(11, 2).moves(3));
        // Each of these is come to first by rows of jumps with more moves, or by another peg.
        PegBoards block = Boards.frozen(false, "oooo", "oooo", "oooo");
        CHECK.due("from 607 to 4", 4, () -> Boards.puzzle(block, 607, 4).moves(500));
        CHECK.due("from 743 to 512", 3, () -> Boards.puzzle(block, 743, 512).moves(500));
        PegBoards corner = Boards.frozen(true, "    o", "   oo", "  ooo", " oooo");
        CHECK.due("from 375 to 1", 4, () -> Boards.puzzle(corner, 375, 1).moves(500));
        CHECK.due("from 375 to 64", 3, () -> Boards.puzzle(corner, 375, 64).moves(500));
    }

    private static void movesOfTheLimit() {
        CHECK.sentence("Promise 12: LIMIT when that is met");
        CHECK.due("the goal is not found", LIMIT, () -> line(11, 2).moves(2));
        CHECK.due("there is no solution", LIMIT, () -> line(11, 4).moves(2));
        CHECK.due("the goal is found before", LIMIT, () -> line(11, 12).moves(2));
        CHECK.due("the start is the goal", LIMIT, () -> line(11, 11).moves(1));
        CHECK.due("501 positions", LIMIT, () -> triangle(TO_501, 128).moves(500));
        CHECK.due("500 positions", NONE, () -> triangle(TO_500, 0).moves(500));
    }

    private static void movesWithoutSolution() {
        CHECK.sentence("Promise 12: NONE when there is no solution");
        CHECK.due("an empty start", NONE, () -> line(0, 1).moves(1));
        CHECK.due("an empty goal", NONE, () -> line(11, 0).moves(500));
        CHECK.due("more pegs", NONE, () -> line(11, 15).moves(500));
        CHECK.due("a just sufficient limit", NONE, () -> line(11, 4).moves(3));
        CHECK.due("a board without jumps", NONE,
                () -> Boards.puzzle(Boards.frozen(false, "oo"), 3, 1).moves(1));
    }

    private static void classesOfLeasts() {
        CHECK.sentence("Promise 13: How many different leasts the positions that can be reached"
                + " have");
        CHECK.due("the empty start", 1, () -> line(0, 0).classes(1));
        CHECK.due("the full start", 1, () -> line(15, 0).classes(1));
        CHECK.due("no two alike", 3, () -> line(11, 0).classes(500));
        CHECK.due("two alike", 2, () -> line(6, 0).classes(500));
        CHECK.due("500 positions", 398, () -> triangle(TO_500, 0).classes(500));
        PegBoards again = line(11, 0);
        CHECK.due("asked once", 3, () -> again.classes(500));
        CHECK.due("asked again", 3, () -> again.classes(500));
        again.place(false, 0);
        CHECK.due("asked of another start", 1, () -> again.classes(500));
        // Without symmetries each position is its own least.
        PegBoards odd = Boards.puzzle(Boards.frozen(false, "oooo", "o"), 6, 0);
        CHECK.due("no symmetry", 3, () -> odd.classes(500));
    }

    private static void classesOfTheLimit() {
        CHECK.sentence("Promise 13: LIMIT when that is met");
        CHECK.due("three positions of two leasts", 2, () -> line(6, 0).classes(3));
        CHECK.due("the limit is of positions", LIMIT, () -> line(6, 0).classes(2));
        CHECK.due("classes(1)", LIMIT, () -> line(6, 0).classes(1));
        CHECK.due("501 positions", LIMIT, () -> triangle(TO_501, 0).classes(500));
    }

    private static void allThrow(PegBoards x, int limit, String want) {
        CHECK.thrown("count(" + limit + ")", want, () -> x.count(limit));
        CHECK.thrown("solve(" + limit + ")", want, () -> x.solve(limit));
        CHECK.thrown("moves(" + limit + ")", want, () -> x.moves(limit));
        CHECK.thrown("classes(" + limit + ")", want, () -> x.classes(limit));
        for (int i : new int[] {Integer.MIN_VALUE, -1, 0, Integer.MAX_VALUE}) {
            CHECK.thrown("way(" + limit + ", " + i + ")", want, () -> x.way(limit, i));
        }
    }

    private static void notFrozen() {
        CHECK.sentence("Promises 9 to 13: IllegalStateException when the board is not frozen");
        PegBoards fresh = new PegBoards();
        PegBoards drawn = Boards.drawn(false, "oooo");
        PegBoards cleared = line(11, 2);
        cleared.clear(false);
        for (int limit : new int[] {1, 2, 499, 500}) {
            allThrow(fresh, limit, Check.STATE);
            allThrow(drawn, limit, Check.STATE);
            allThrow(cleared, limit, Check.STATE);
        }
    }

    private static void wrongLimits() {
        CHECK.sentence("Promises 9 to 13: IllegalArgumentException when limit is not 1 .. 500");
        PegBoards x = line(0, 0);
        for (int limit : WRONG_LIMITS) {
            allThrow(x, limit, Check.ARGUMENT);
        }
        for (int limit : new int[] {1, 500}) {
            CHECK.due("count(" + limit + ")", 1, () -> x.count(limit));
            CHECK.due("solve(" + limit + ")", 1, () -> x.solve(limit));
            CHECK.due("way(" + limit + ", 0)", NONE, () -> x.way(limit, 0));
            CHECK.due("moves(" + limit + ")", 0, () -> x.moves(limit));
            CHECK.due("classes(" + limit + ")", 1, () -> x.classes(limit));
        }
    }
}
