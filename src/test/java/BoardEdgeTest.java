/** The boundary cases of promises 1 to 8: one test for each sentence. */
public final class BoardEdgeTest {
    private static final Check CHECK = new Check();
    private static final int NONE = PegBoards.NONE;
    private static final int MIN = Integer.MIN_VALUE;
    private static final int MAX = Integer.MAX_VALUE;
    private static final String[] BLOCK = {"ooooo", "ooooo", "ooooo", "ooooo"};
    private static final int ALL_20 = (1 << 20) - 1;

    public static void main(String[] args) {
        newHasNoHoles();
        newHasASquareGrid();
        newIsNotFrozen();
        clearLeavesNoHoles();
        clearLeavesNotFrozen();
        clearEmptiesStartAndGoal();
        clearTakesAGrid();
        clearForgetsJumpsAndWeights();
        holeAnswersHowMany();
        holeOutsideThePlaces();
        holeOfAFrozenBoard();
        holeThatThereIs();
        holeBehind20();
        freezeAnswersHowMany();
        freezeOfAFrozenBoard();
        freezeWithoutHole();
        atANumberedHole();
        atNoHole();
        atNotFrozen();
        jumpWithoutSuchJump();
        jumpNotFrozen();
        jumpWithoutSuchWhat();
        placeOfStartOrGoal();
        placeWithoutSuchHole();
        placeNotFrozen();
        afterThatCanNotBeMade();
        afterWithoutSuchJump();
        afterWithoutSuchHole();
        CHECK.end();
    }

    private static void newHasNoHoles() {
        CHECK.sentence("Promise 1: No holes");
        PegBoards x = new PegBoards();
        CHECK.thrown("freeze()", Check.STATE, x::freeze);
        CHECK.due("hole(0, 0)", 1, () -> x.hole(0, 0));
    }

    private static void newHasASquareGrid() {
        CHECK.sentence("Promise 1: a square grid");
        PegBoards x = new PegBoards();
        CHECK.due("parity(0)", 0, () -> x.parity(0));
        Boards.draw(x, "  o", " o", "o");
        CHECK.due("a rising diagonal: freeze()", 0, x::freeze);
        CHECK.due("a rising diagonal: symmetries()", 4, x::symmetries);
        CHECK.due("a rising diagonal: parity(7)", 4, () -> x.parity(7));
    }

    private static void newIsNotFrozen() {
        CHECK.sentence("Promise 1: not frozen");
        PegBoards x = new PegBoards();
        CHECK.thrown("count(500)", Check.STATE, () -> x.count(500));
        CHECK.due("symmetries()", 0, x::symmetries);
        CHECK.due("at(0, 0)", NONE, () -> x.at(0, 0));
        CHECK.due("hole(7, 7)", 1, () -> x.hole(7, 7));
    }

    /** New, drawn, full and frozen boards on both grids, each to be cleared. */
    private static PegBoards[] boardsToClear() {
        return new PegBoards[] {
            new PegBoards(),
            Boards.drawn(false, "ooo"), Boards.drawn(true, "ooo"),
            Boards.drawn(false, BLOCK), Boards.drawn(true, BLOCK),
            Boards.puzzle(Boards.frozen(false, "ooo"), 3, 4),
            Boards.puzzle(Boards.frozen(true, "oo", "o"), 7, 7),
            Boards.puzzle(Boards.frozen(false, BLOCK), ALL_20, ALL_20),
            Boards.puzzle(Boards.frozen(true, BLOCK), ALL_20, ALL_20),
        };
    }

    private static void clearLeavesNoHoles() {
        CHECK.sentence("Promise 2: No holes");
        for (PegBoards x : boardsToClear()) {
            x.clear(false);
            CHECK.thrown("freeze()", Check.STATE, x::freeze);
            for (int i = 0; i < 20; i++) {
                int place = i;
                CHECK.due("hole " + i, i + 1, () -> x.hole(place / 8, place % 8));
            }
            CHECK.thrown("the 21st", Check.STATE, () -> x.hole(7, 7));
            x.freeze();
            CHECK.due("the last hole", 19, () -> x.at(2, 3));
            CHECK.due("behind it", NONE, () -> x.at(2, 4));
        }
    }

    private static void clearLeavesNotFrozen() {
        CHECK.sentence("Promise 2: not frozen");
        for (PegBoards x : boardsToClear()) {
            x.clear(true);
            CHECK.due("at(0, 0)", NONE, () -> x.at(0, 0));
            CHECK.due("symmetries()", 0, x::symmetries);
            CHECK.thrown("jump(0, 0)", Check.INDEX, () -> x.jump(0, 0));
            CHECK.thrown("after(0, 0)", Check.INDEX, () -> x.after(0, 0));
            CHECK.thrown("image(0, 0)", Check.INDEX, () -> x.image(0, 0));
            CHECK.thrown("count(1)", Check.STATE, () -> x.count(1));
            CHECK.thrown("least(0)", Check.STATE, () -> x.least(0));
            CHECK.thrown("find()", Check.STATE, () -> x.find() ? 1 : 0);
            CHECK.does("weight(0, 0)", Check.INDEX, () -> x.weight(0, 0));
            CHECK.thrown("weights(3)", Check.INDEX, () -> x.weights(3));
            CHECK.does("place(false, 1)", Check.ARGUMENT, () -> x.place(false, 1));
            CHECK.thrown("parity(1)", Check.ARGUMENT, () -> x.parity(1));
            CHECK.due("hole(0, 0)", 1, () -> x.hole(0, 0));
            CHECK.due("freeze()", 0, x::freeze);
        }
    }

    private static void clearEmptiesStartAndGoal() {
        CHECK.sentence("Promise 2: start and goal empty");
        for (PegBoards x : boardsToClear()) {
            x.clear(false);
            CHECK.due("the start's sum", 0, () -> x.weights(1));
            CHECK.due("the goal's sum", 0, () -> x.weights(2));
            Boards.draw(x, BLOCK);
            x.freeze();
            for (int hole = 0; hole < 20; hole++) {
                x.weight(hole, 1);
            }
            CHECK.due("drawn again: the start's sum", 0, () -> x.weights(1));
            CHECK.due("drawn again: the goal's sum", 0, () -> x.weights(2));
            CHECK.due("drawn again: count(1)", 1, () -> x.count(1));
            CHECK.due("drawn again: solve(1)", 1, () -> x.solve(1));
        }
    }

    private static void clearTakesAGrid() {
        CHECK.sentence("Promise 2: a grid, the triangular one or the square one");
        for (PegBoards x : boardsToClear()) {
            x.clear(true);
            CHECK.due("triangular: parity(0)", NONE, () -> x.parity(0));
            Boards.draw(x, "  o", " o", "o");
            CHECK.due("triangular: freeze()", 2, x::freeze);
            x.clear(false);
            CHECK.due("square: parity(0)", 0, () -> x.parity(0));
            Boards.draw(x, "  o", " o", "o");
            CHECK.due("square: freeze()", 0, x::freeze);
            x.clear(true);
            x.clear(true);
            Boards.draw(x, "o");
            x.freeze();
            CHECK.due("triangular again: symmetries()", 12, x::symmetries);
        }
    }

    /** Boards with fewer holes, jumps and symmetries than those before them. */
    private static void clearForgetsJumpsAndWeights() {
        CHECK.sentence("Promise 2: No holes, and so none of their jumps, images and weights");
        for (PegBoards x : boardsToClear()) {
            x.clear(false);
            Boards.draw(x, "oooo", "o");
            x.freeze();
            CHECK.thrown("jump(4, 0)", Check.INDEX, () -> x.jump(4, 0));
            CHECK.thrown("image(1, 0)", Check.INDEX, () -> x.image(1, 0));
            for (int hole = 0; hole < 5; hole++) {
                int what = 3 + hole;
                CHECK.due("the weight of hole " + hole, 0, () -> x.weights(what));
            }
            // Jumps of the boards before: from 1 down, from 0 down.
            for (int start = 0; start < 32; start++) {
                x.place(false, start);
                int reached = ofLineOfFour(start % 16);
                CHECK.due("count(500) from " + start, reached, () -> x.count(500));
            }
            x.weight(4, 60);
            CHECK.due("the hole apart raises nothing", 1, () -> x.weights(0));
        }
    }

    /** How many positions can be reached on a line of four. */
    private static int ofLineOfFour(int start) {
        int[] reached = {1, 1, 1, 2, 1, 1, 3, 2, 1, 1, 1, 3, 2, 3, 2, 1};
        return reached[start];
    }

    private static void holeAnswersHowMany() {
        CHECK.sentence("Promise 3: Draws a hole; answers how many there are");
        PegBoards x = new PegBoards();
        for (int i = 0; i < 20; i++) {
            int place = 63 - 3 * i;
            CHECK.due("hole " + i, i + 1, () -> x.hole(place / 8, place % 8));
        }
    }

    private static void holeOutsideThePlaces() {
        CHECK.sentence("Promise 3: IllegalArgumentException when r or c is not 0 .. 7");
        PegBoards x = new PegBoards();
        int[] wrong = {MIN, -8, -1, 8, 16, 1 << 29, MAX};
        for (int edge : wrong) {
            for (int good : new int[] {0, 7}) {
                CHECK.thrown("hole(" + edge + ", " + good + ")", Check.ARGUMENT,
                        () -> x.hole(edge, good));
                CHECK.thrown("hole(" + good + ", " + edge + ")", Check.ARGUMENT,
                        () -> x.hole(good, edge));
            }
            CHECK.thrown("hole(" + edge + ", " + edge + ")", Check.ARGUMENT,
                    () -> x.hole(edge, edge));
        }
        CHECK.thrown("no hole was drawn", Check.STATE, x::freeze);
        CHECK.due("hole(0, 0)", 1, () -> x.hole(0, 0));
        CHECK.due("hole(7, 7)", 2, () -> x.hole(7, 7));
    }

    private static void holeOfAFrozenBoard() {
        CHECK.sentence("Promise 3: IllegalStateException when the board is frozen");
        PegBoards x = Boards.frozen(false, "oo");
        CHECK.thrown("hole(0, 2)", Check.STATE, () -> x.hole(0, 2));
        CHECK.due("at(0, 2)", NONE, () -> x.at(0, 2));
        CHECK.thrown("hole 2 is none", Check.INDEX, () -> x.weights(5));
    }

    private static void holeThatThereIs() {
        CHECK.sentence("Promise 3: IllegalStateException when there is one");
        PegBoards x = new PegBoards();
        x.hole(0, 0);
        x.hole(7, 7);
        CHECK.thrown("hole(0, 0)", Check.STATE, () -> x.hole(0, 0));
        CHECK.thrown("hole(7, 7)", Check.STATE, () -> x.hole(7, 7));
        CHECK.due("hole(0, 7)", 3, () -> x.hole(0, 7));
        CHECK.due("hole(7, 0)", 4, () -> x.hole(7, 0));
    }

    private static void holeBehind20() {
        CHECK.sentence("Promise 3: IllegalStateException when there are 20");
        PegBoards x = Boards.drawn(false, "oooooooo", "oooooooo", "ooo");
        CHECK.due("the 20th", 20, () -> x.hole(2, 3));
        CHECK.thrown("the 21st", Check.STATE, () -> x.hole(2, 4));
        CHECK.thrown("the 21st at a hole", Check.STATE, () -> x.hole(0, 0));
        x.freeze();
        CHECK.due("at(2, 3)", 19, () -> x.at(2, 3));
        CHECK.due("at(2, 4)", NONE, () -> x.at(2, 4));
    }

    private static void freezeAnswersHowMany() {
        CHECK.sentence("Promise 4: Freezes the board; answers how many jumps there are");
        CHECK.due("one hole", 0, Boards.drawn(false, "o")::freeze);
        CHECK.due("three holes", 2, Boards.drawn(false, "ooo")::freeze);
        CHECK.due("20 holes", 44, Boards.drawn(false, BLOCK)::freeze);
        CHECK.due("20 triangular holes", 56, Boards.drawn(true, BLOCK)::freeze);
        PegBoards x = new PegBoards();
        x.hole(0, 0);
        x.freeze();
        x.clear(false);
        Boards.draw(x, "ooo");
        CHECK.due("behind a cleared board", 2, x::freeze);
    }

    private static void freezeOfAFrozenBoard() {
        CHECK.sentence("Promise 4: IllegalStateException when it is frozen");
        PegBoards x = Boards.frozen(false, "ooo");
        CHECK.thrown("freeze()", Check.STATE, x::freeze);
        CHECK.due("the last jump", 0, () -> x.jump(1, 2));
        CHECK.thrown("no jump was added", Check.INDEX, () -> x.jump(2, 0));
        CHECK.due("no symmetry was added", 4, x::symmetries);
        CHECK.thrown("freeze() once more", Check.STATE, x::freeze);
    }

    private static void freezeWithoutHole() {
        CHECK.sentence("Promise 4: IllegalStateException when it has no hole");
        PegBoards x = new PegBoards();
        CHECK.thrown("freeze()", Check.STATE, x::freeze);
        CHECK.due("it is not frozen", 1, () -> x.hole(0, 0));
        x.clear(true);
        CHECK.thrown("cleared: freeze()", Check.STATE, x::freeze);
        CHECK.due("cleared: it is not frozen", 1, () -> x.hole(0, 0));
    }

    private static void atANumberedHole() {
        CHECK.sentence("Promise 5: The number of the hole at a place");
        PegBoards x = Boards.frozen(false, "o      o", "", "", "", "", "", "", "o      o");
        CHECK.due("at(0, 0)", 0, () -> x.at(0, 0));
        CHECK.due("at(0, 7)", 1, () -> x.at(0, 7));
        CHECK.due("at(7, 0)", 2, () -> x.at(7, 0));
        CHECK.due("at(7, 7)", 3, () -> x.at(7, 7));
    }

    private static void atNoHole() {
        CHECK.sentence("Promise 5: NONE when there is none");
        PegBoards x = Boards.frozen(false, "o      o", "", "", "", "", "", "", "o      o");
        int[] wrong = {MIN, MIN + 1, -64, -8, -1, 8, 15, 64, 1 << 29, 1 << 30, MAX};
        for (int edge : wrong) {
            for (int good : new int[] {0, 7}) {
                CHECK.due("at(" + edge + ", " + good + ")", NONE, () -> x.at(edge, good));
                CHECK.due("at(" + good + ", " + edge + ")", NONE, () -> x.at(good, edge));
            }
            CHECK.due("at(" + edge + ", " + edge + ")", NONE, () -> x.at(edge, edge));
        }
        // Each would be a hole if rows of eight were read on past their ends.
        CHECK.due("at(-1, 8)", NONE, () -> x.at(-1, 8));
        CHECK.due("at(1, -8)", NONE, () -> x.at(1, -8));
        CHECK.due("at(1, -1)", NONE, () -> x.at(1, -1));
        CHECK.due("at(6, 8)", NONE, () -> x.at(6, 8));
        CHECK.due("at(8, -1)", NONE, () -> x.at(8, -1));
        for (int i = 1; i < 7; i++) {
            int inner = i;
            CHECK.due("at(0, " + i + ")", NONE, () -> x.at(0, inner));
            CHECK.due("at(" + i + ", 0)", NONE, () -> x.at(inner, 0));
        }
    }

    private static void atNotFrozen() {
        CHECK.sentence("Promise 5: NONE when the board is not frozen");
        PegBoards x = Boards.drawn(false, BLOCK);
        for (int i = 0; i < 20; i++) {
            int hole = i;
            CHECK.due("at hole " + i, NONE, () -> x.at(hole / 5, hole % 5));
        }
        CHECK.due("at(8, 8)", NONE, () -> x.at(8, 8));
        x.freeze();
        CHECK.due("frozen: at(3, 4)", 19, () -> x.at(3, 4));
    }

    private static void jumpWithoutSuchJump() {
        CHECK.sentence("Promise 6: IndexOutOfBoundsException when there is no such jump");
        PegBoards x = Boards.frozen(false, "ooo");
        PegBoards none = Boards.frozen(false, "oo");
        CHECK.due("jump(0, 0)", 0, () -> x.jump(0, 0));
        CHECK.due("jump(1, 0)", 2, () -> x.jump(1, 0));
        for (int k : new int[] {MIN, -2, -1, 2, 3, 119, 120, 121, MAX}) {
            for (int what = 0; what < 3; what++) {
                int part = what;
                CHECK.thrown("jump(" + k + ", " + what + ")", Check.INDEX, () -> x.jump(k, part));
            }
        }
        CHECK.thrown("a board without jumps", Check.INDEX, () -> none.jump(0, 0));
        PegBoards full = Boards.frozen(true, BLOCK);
        CHECK.due("jump(55, 2)", 9, () -> full.jump(55, 2));
        CHECK.thrown("jump(56, 2)", Check.INDEX, () -> full.jump(56, 2));
    }

    private static void jumpNotFrozen() {
        CHECK.sentence("Promise 6: none when it is not frozen");
        PegBoards x = Boards.drawn(false, "ooo");
        for (int k : new int[] {-1, 0, 1, 2}) {
            CHECK.thrown("jump(" + k + ", 0)", Check.INDEX, () -> x.jump(k, 0));
        }
        x.freeze();
        x.clear(false);
        Boards.draw(x, "ooo");
        CHECK.thrown("drawn again: jump(0, 0)", Check.INDEX, () -> x.jump(0, 0));
    }

    private static void jumpWithoutSuchWhat() {
        CHECK.sentence("Promise 6: IndexOutOfBoundsException when there is no such what");
        PegBoards x = Boards.frozen(false, "ooo");
        for (int what : new int[] {MIN, -1, 3, 4, MAX}) {
            CHECK.thrown("jump(0, " + what + ")", Check.INDEX, () -> x.jump(0, what));
            CHECK.thrown("jump(2, " + what + ")", Check.INDEX, () -> x.jump(2, what));
        }
        CHECK.due("jump(1, 0)", 2, () -> x.jump(1, 0));
        CHECK.due("jump(1, 1)", 1, () -> x.jump(1, 1));
        CHECK.due("jump(1, 2)", 0, () -> x.jump(1, 2));
    }

    private static PegBoards weighed(boolean triangular, String... rows) {
        PegBoards x = Boards.frozen(triangular, rows);
        x.weight(0, 1);
        x.weight(1, 2);
        x.weight(2, 4);
        return x;
    }

    private static void sumsAre(PegBoards x, int start, int goal) {
        CHECK.due("the start's sum", start, () -> x.weights(1));
        CHECK.due("the goal's sum", goal, () -> x.weights(2));
    }

    private static void placeOfStartOrGoal() {
        CHECK.sentence("Promise 7: The start, or the goal, becomes a position");
        PegBoards x = weighed(false, "ooo");
        CHECK.does("place(false, 7)", Check.DONE, () -> x.place(false, 7));
        sumsAre(x, 7, 0);
        CHECK.does("place(true, 5)", Check.DONE, () -> x.place(true, 5));
        sumsAre(x, 7, 5);
        CHECK.does("place(false, 0)", Check.DONE, () -> x.place(false, 0));
        sumsAre(x, 0, 5);
        CHECK.does("place(true, 0)", Check.DONE, () -> x.place(true, 0));
        sumsAre(x, 0, 0);
    }

    private static void placeWithoutSuchHole() {
        CHECK.sentence("Promise 7: IllegalArgumentException when that has a hole that there is"
                + " none");
        PegBoards x = Boards.puzzle(weighed(false, "ooo"), 3, 6);
        for (int p : new int[] {MIN, MIN + 1, -8, -1, 8, 9, 15, 1 << 19, 1 << 20, 1 << 30, MAX}) {
            CHECK.does("place(false, " + p + ")", Check.ARGUMENT, () -> x.place(false, p));
            CHECK.does("place(true, " + p + ")", Check.ARGUMENT, () -> x.place(true, p));
            sumsAre(x, 3, 6);
        }
        PegBoards full = Boards.frozen(false, BLOCK);
        CHECK.does("all 20", Check.DONE, () -> full.place(false, ALL_20));
        CHECK.does("hole 20", Check.ARGUMENT, () -> full.place(false, 1 << 20));
        CHECK.does("all 20 and hole 31", Check.ARGUMENT, () -> full.place(false, MIN | ALL_20));
        PegBoards one = Boards.frozen(false, "o");
        CHECK.does("hole 0 of one", Check.DONE, () -> one.place(true, 1));
        CHECK.does("hole 1 of one", Check.ARGUMENT, () -> one.place(true, 2));
    }

    private static void placeNotFrozen() {
        CHECK.sentence("Promise 7: none when it is not frozen");
        PegBoards x = Boards.drawn(false, "ooo");
        for (int p : new int[] {MIN, -1, 1, 2, 4, 7, 8, MAX}) {
            CHECK.does("place(false, " + p + ")", Check.ARGUMENT, () -> x.place(false, p));
            CHECK.does("place(true, " + p + ")", Check.ARGUMENT, () -> x.place(true, p));
        }
        CHECK.does("the empty start", Check.DONE, () -> x.place(false, 0));
        CHECK.does("the empty goal", Check.DONE, () -> x.place(true, 0));
        PegBoards fresh = new PegBoards();
        CHECK.does("without holes", Check.DONE, () -> fresh.place(true, 0));
        CHECK.does("without holes: place(true, 1)", Check.ARGUMENT, () -> fresh.place(true, 1));
    }

    private static void afterThatCanNotBeMade() {
        CHECK.sentence("Promise 8: NONE when it can not be made");
        PegBoards x = Boards.frozen(false, "ooo");
        CHECK.due("after(3, 0)", 4, () -> x.after(3, 0));
        CHECK.due("after(6, 1)", 1, () -> x.after(6, 1));
        CHECK.due("after(0, 0)", NONE, () -> x.after(0, 0));
        CHECK.due("after(7, 0)", NONE, () -> x.after(7, 0));
        CHECK.due("after(1, 0)", NONE, () -> x.after(1, 0));
        CHECK.due("after(2, 0)", NONE, () -> x.after(2, 0));
        CHECK.due("after(3, 1)", NONE, () -> x.after(3, 1));
    }

    private static void afterWithoutSuchJump() {
        CHECK.sentence("Promise 8: IndexOutOfBoundsException when there is no such jump");
        PegBoards x = Boards.frozen(false, "ooo");
        for (int k : new int[] {MIN, -1, 2, 3, 119, 120, MAX}) {
            CHECK.thrown("after(3, " + k + ")", Check.INDEX, () -> x.after(3, k));
        }
        PegBoards none = Boards.frozen(false, "oo");
        CHECK.thrown("a board without jumps", Check.INDEX, () -> none.after(3, 0));
        PegBoards drawn = Boards.drawn(false, "ooo");
        CHECK.thrown("not frozen", Check.INDEX, () -> drawn.after(0, 0));
    }

    private static void afterWithoutSuchHole() {
        CHECK.sentence("Promise 8: IllegalArgumentException when position has a hole that there is"
                + " none");
        PegBoards x = Boards.frozen(false, "ooo");
        for (int p : new int[] {MIN, MIN + 3, -1, -5, 8, 8 + 3, (1 << 20) + 3, 1 << 30, MAX}) {
            CHECK.thrown("after(" + p + ", 0)", Check.ARGUMENT, () -> x.after(p, 0));
        }
        PegBoards full = Boards.frozen(false, BLOCK);
        // Jump 6 is from hole 2 over 1 to 0.
        CHECK.due("all but hole 0", ALL_20 - 2 - 4, () -> full.after(ALL_20 - 1, 6));
        CHECK.thrown("hole 20", Check.ARGUMENT, () -> full.after((1 << 20) + 6, 6));
    }
}
