/** Promises 9 to 12: count, solve, way, moves. */
public final class ReachingTest {
    private static final Check CHECK = new Check();

    public static void main(String[] args) {
        exceptions();
        limitsOfCount();
        goalWithinLimit();
        startIsGoal();
        noSolution();
        firstFoundWay();
        jumpsOfOnePegAreOneMove();
        fewestMovesAreNotTheWay();
        fewestMovesOfLaterRows();
        limitOfMoves();
        cornerTriangle();
        newStartIsReachedAnew();
        CHECK.end();
    }

    private static void limitCases(PegBoards x, int limit, String want) {
        CHECK.thrown("count(" + limit + ")", want, () -> x.count(limit));
        CHECK.thrown("solve(" + limit + ")", want, () -> x.solve(limit));
        CHECK.thrown("way(" + limit + ", 0)", want, () -> x.way(limit, 0));
        CHECK.thrown("moves(" + limit + ")", want, () -> x.moves(limit));
        CHECK.thrown("classes(" + limit + ")", want, () -> x.classes(limit));
    }

    private static void exceptions() {
        PegBoards fresh = new PegBoards();
        PegBoards drawn = Boards.drawn(false, "oooo");
        PegBoards frozen = Boards.frozen(false, "oooo");
        for (int limit : new int[] {1, 500, 0, 501, -1}) {
            limitCases(fresh, limit, Check.STATE);
            limitCases(drawn, limit, Check.STATE);
        }
        for (int limit : new int[] {Integer.MIN_VALUE, -1, 0, 501, Integer.MAX_VALUE}) {
            limitCases(frozen, limit, Check.ARGUMENT);
        }
        CHECK.due("count(1) of the empty start", 1, () -> frozen.count(1));
        CHECK.due("count(500) of the empty start", 1, () -> frozen.count(500));
    }

    private static void limitsOfCount() {
        PegBoards x = Boards.puzzle(Boards.frozen(false, "oooo"), 11, 2);
        CHECK.due("count(500)", 3, () -> x.count(500));
        CHECK.due("count(4)", 3, () -> x.count(4));
        CHECK.due("count(3) is not met", 3, () -> x.count(3));
        CHECK.due("count(2)", PegBoards.LIMIT, () -> x.count(2));
        CHECK.due("count(1)", PegBoards.LIMIT, () -> x.count(1));
    }

    private static void goalWithinLimit() {
        // From 11: 0 is 11, 1 is 12 by jump 0, 2 is 2 by jump 3.
        PegBoards x = Boards.puzzle(Boards.frozen(false, "oooo"), 11, 12);
        CHECK.due("solve(2) finds the goal though the limit is met", 1, () -> x.solve(2));
        CHECK.due("way(2, 0) likewise", 0, () -> x.way(2, 0));
        CHECK.due("way(2, 1)", PegBoards.NONE, () -> x.way(2, 1));
        CHECK.due("solve(1)", PegBoards.LIMIT, () -> x.solve(1));
        CHECK.due("way(1, 0)", PegBoards.NONE, () -> x.way(1, 0));
        x.place(true, 2);
        CHECK.due("solve(3)", 1, () -> x.solve(3));
        CHECK.due("solve(2)", PegBoards.LIMIT, () -> x.solve(2));
        CHECK.due("way(3, 0)", 0, () -> x.way(3, 0));
        CHECK.due("way(3, 1)", 3, () -> x.way(3, 1));
        CHECK.due("way(2, 0)", PegBoards.NONE, () -> x.way(2, 0));
        for (int i : new int[] {Integer.MIN_VALUE, -1, 2, 3, 500, Integer.MAX_VALUE}) {
            CHECK.due("way(500, " + i + ")", PegBoards.NONE, () -> x.way(500, i));
        }
    }

    private static void startIsGoal() {
        PegBoards x = Boards.puzzle(Boards.frozen(false, "oooo"), 11, 11);
        CHECK.due("solve(500)", 1, () -> x.solve(500));
        CHECK.due("solve(1)", 1, () -> x.solve(1));
        CHECK.due("way(500, 0)", PegBoards.NONE, () -> x.way(500, 0));
        CHECK.due("way(500, -1)", PegBoards.NONE, () -> x.way(500, -1));
        CHECK.due("moves(500)", 0, () -> x.moves(500));
        CHECK.due("moves(1)", PegBoards.LIMIT, () -> x.moves(1));
    }

    private static void noSolution() {
        PegBoards x = Boards.puzzle(Boards.frozen(false, "oooo"), 11, 4);
        CHECK.due("solve(500)", 0, () -> x.solve(500));
        CHECK.due("solve(3)", 0, () -> x.solve(3));
        CHECK.due("way(500, 0)", PegBoards.NONE, () -> x.way(500, 0));
        CHECK.due("moves(500)", PegBoards.NONE, () -> x.moves(500));
        CHECK.due("moves(2)", PegBoards.LIMIT, () -> x.moves(2));
        x.place(true, 15);
        CHECK.due("more pegs: solve(500)", 0, () -> x.solve(500));
        CHECK.due("more pegs: way(500, 0)", PegBoards.NONE, () -> x.way(500, 0));
        CHECK.due("more pegs: moves(500)", PegBoards.NONE, () -> x.moves(500));
        PegBoards stuck = Boards.puzzle(Boards.frozen(false, "oo"), 3, 1);
        CHECK.due("no jumps: count(1)", 1, () -> stuck.count(1));
        CHECK.due("no jumps: solve(1)", 0, () -> stuck.solve(1));
        CHECK.due("no jumps: moves(1)", PegBoards.NONE, () -> stuck.moves(1));
    }

    /** Two jumps that can be made in either order: the one with the less number comes first. */
    private static void firstFoundWay() {
        PegBoards x = Boards.puzzle(Boards.frozen(false, "ooo", "", "ooo"), 3 + 48, 4 + 8);
        // The jumps: 0 1 2, 2 1 0, 3 4 5, 5 4 3.
        CHECK.due("count(500)", 4, () -> x.count(500));
        CHECK.due("way(500, 0)", 0, () -> x.way(500, 0));
        CHECK.due("way(500, 1)", 3, () -> x.way(500, 1));
        CHECK.due("way(500, 2)", PegBoards.NONE, () -> x.way(500, 2));
        CHECK.due("moves(500)", 2, () -> x.moves(500));
    }

    private static void jumpsOfOnePegAreOneMove() {
        // Peg 0 jumps over 1 and over 3 in one row.
        PegBoards x = Boards.puzzle(Boards.frozen(false, "ooooo"), 1 + 2 + 8, 16);
        CHECK.due("one peg, two jumps", 1, () -> x.moves(500));
        // Round a corner, the same peg: over 1, then over 3.
        PegBoards corner = Boards.puzzle(Boards.frozen(false, "ooo", "  o", "  o"), 1 + 2 + 8, 16);
        CHECK.due("round a corner", 1, () -> corner.moves(500));
        // Peg 0 goes over 1 into hole 2, and then peg 3 jumps over it.
        PegBoards other = Boards.puzzle(Boards.frozen(false, "oooo"), 11, 2);
        CHECK.due("two pegs, two jumps", 2, () -> other.moves(500));
    }

    /** The way found first can have more moves than the best solution. */
    private static void fewestMovesAreNotTheWay() {
        PegBoards x = Boards.frozen(true, "    o", "   oo", "  ooo", " oooo", "ooooo");
        int worse = 0;
        for (int start = 1; start < 1 << 15; start += 37) {
            x.place(false, start);
            if (Integer.bitCount(start) <= 7 && x.count(500) != PegBoards.LIMIT) {
                worse += waysWithMoreMoves(x, start);
            }
        }
        int seen = worse;
        CHECK.due("some way has more moves than the fewest", 1, () -> seen > 0 ? 1 : 0);
    }

    /** Positions that are come to first in more moves, then by another peg in fewer. */
    private static void fewestMovesOfLaterRows() {
        PegBoards block = Boards.puzzle(Boards.frozen(false, "oooo", "oooo", "oooo"), 607, 4);
        CHECK.due("from 607 to 4: moves(500)", 4, () -> block.moves(500));
        Boards.puzzle(block, 743, 512);
        CHECK.due("from 743 to 512: moves(500)", 3, () -> block.moves(500));
        PegBoards corner = Boards.puzzle(
                Boards.frozen(true, "    o", "   oo", "  ooo", " oooo"), 375, 1);
        CHECK.due("from 375 to 1: moves(500)", 4, () -> corner.moves(500));
        corner.place(true, 64);
        CHECK.due("from 375 to 64: moves(500)", 3, () -> corner.moves(500));
    }

    private static int waysWithMoreMoves(PegBoards x, int start) {
        int worse = 0;
        for (int hole = 0; hole < 15; hole++) {
            x.place(true, 1 << hole);
            if (x.solve(500) == 1) {
                int ofWay = movesOfWay(x);
                int fewest = x.moves(500);
                CHECK.same("moves from " + start + " to hole " + hole + " are no more than the way's",
                        "true", Boolean.toString(fewest <= ofWay));
                worse += fewest < ofWay ? 1 : 0;
            }
        }
        return worse;
    }

    private static int movesOfWay(PegBoards x) {
        int moves = 0;
        int last = PegBoards.NONE;
        for (int i = 0; x.way(500, i) != PegBoards.NONE; i++) {
            int k = x.way(500, i);
            moves += x.jump(k, 0) == last ? 0 : 1;
            last = x.jump(k, 2);
        }
        return moves;
    }

    /** The limit comes before the goal that was found within it. */
    private static void limitOfMoves() {
        PegBoards x = Boards.puzzle(Boards.frozen(false, "oooo"), 11, 12);
        CHECK.due("moves(3)", 1, () -> x.moves(3));
        CHECK.due("moves(2)", PegBoards.LIMIT, () -> x.moves(2));
        CHECK.due("moves(1)", PegBoards.LIMIT, () -> x.moves(1));
    }

    private static void cornerTriangle() {
        PegBoards x = Boards.puzzle(Boards.frozen(true, "    o", "   oo", "  ooo", " oooo"), 1022, 1);
        CHECK.due("count(500)", 42, () -> x.count(500));
        CHECK.due("count(42)", 42, () -> x.count(42));
        CHECK.due("count(41)", PegBoards.LIMIT, () -> x.count(41));
        CHECK.due("solve(42)", 0, () -> x.solve(42));
        CHECK.due("solve(41)", PegBoards.LIMIT, () -> x.solve(41));
        PegBoards big = Boards.puzzle(
                Boards.frozen(false, "oooo", "oooo", "oooo", "oooo", "oooo"), 1047551, 0);
        CHECK.due("20 holes: count(500)", PegBoards.LIMIT, () -> big.count(500));
        CHECK.due("20 holes: solve(500)", PegBoards.LIMIT, () -> big.solve(500));
        CHECK.due("20 holes: moves(500)", PegBoards.LIMIT, () -> big.moves(500));
        CHECK.due("20 holes: classes(500)", PegBoards.LIMIT, () -> big.classes(500));
    }

    private static void newStartIsReachedAnew() {
        PegBoards x = Boards.puzzle(Boards.frozen(false, "oooo"), 11, 2);
        CHECK.due("solve(500) from 11", 1, () -> x.solve(500));
        x.place(false, 15);
        CHECK.due("solve(500) from 15", 0, () -> x.solve(500));
        CHECK.due("count(500) from 15", 1, () -> x.count(500));
        x.place(false, 12);
        CHECK.due("way(500, 0) from 12", 3, () -> x.way(500, 0));
        CHECK.due("moves(500) from 12", 1, () -> x.moves(500));
    }
}
