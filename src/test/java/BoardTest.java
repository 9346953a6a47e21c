/** Promises 1 to 6: a new object, clear, hole, freeze, at, jump. */
public final class BoardTest {
    private static final Check CHECK = new Check();
    private static final int[] EDGES =
            {Integer.MIN_VALUE, -1000, -1, 8, 9, 64, 1000, Integer.MAX_VALUE};

    public static void main(String[] args) {
        newObject();
        clearForgetsAll();
        clearChoosesGrid();
        holesAreCounted();
        wrongPlaces();
        holeThatIsThere();
        twentyHoles();
        placeComesBeforeState();
        freezing();
        atPlaces();
        numbersByRowsThenColumns();
        squareJumps();
        triangularJumps();
        jumpNeedsThreeHoles();
        wrongJumps();
        manyJumps();
        CHECK.end();
    }

    private static void newObject() {
        PegBoards x = new PegBoards();
        CHECK.thrown("new: freeze()", Check.STATE, x::freeze);
        CHECK.due("new: at(0, 0)", PegBoards.NONE, () -> x.at(0, 0));
        CHECK.due("new: symmetries()", 0, x::symmetries);
        CHECK.due("new: parity(0) is of a square grid", 0, () -> x.parity(0));
        CHECK.due("new: sum of the start", 0, () -> x.weights(1));
        CHECK.due("new: sum of the goal", 0, () -> x.weights(2));
        CHECK.due("new: first hole", 1, () -> x.hole(7, 7));
        CHECK.due("new: one hole has no jump", 0, x::freeze);
        CHECK.due("new: symmetries of a square hole", 8, x::symmetries);
        CHECK.due("new: the start is the goal", 1, () -> x.solve(1));
    }

    private static void clearForgetsAll() {
        PegBoards x = Boards.puzzle(Boards.frozen(false, "oooo"), 11, 2);
        x.weight(1, 5);
        x.clear(false);
        CHECK.due("cleared: at(0, 0)", PegBoards.NONE, () -> x.at(0, 0));
        CHECK.due("cleared: symmetries()", 0, x::symmetries);
        CHECK.thrown("cleared: jump(0, 0)", Check.INDEX, () -> x.jump(0, 0));
        CHECK.thrown("cleared: image(0, 0)", Check.INDEX, () -> x.image(0, 0));
        CHECK.thrown("cleared: after(0, 0)", Check.INDEX, () -> x.after(0, 0));
        CHECK.thrown("cleared: count(5)", Check.STATE, () -> x.count(5));
        CHECK.thrown("cleared: freeze()", Check.STATE, x::freeze);
        CHECK.due("cleared: weights(0)", 1, () -> x.weights(0));
        CHECK.due("cleared: weights(1)", 0, () -> x.weights(1));
        CHECK.due("cleared: weights(2)", 0, () -> x.weights(2));
        CHECK.thrown("cleared: weights(3)", Check.INDEX, () -> x.weights(3));
        CHECK.does("cleared: place(false, 1)", Check.ARGUMENT, () -> x.place(false, 1));
        CHECK.due("cleared: hole(0, 0) counts anew", 1, () -> x.hole(0, 0));
        Boards.draw(x, " ooo");
        CHECK.due("drawn again: freeze()", 4, x::freeze);
        CHECK.due("drawn again: the start is empty", 1, () -> x.count(500));
        CHECK.due("drawn again: the goal is empty", 1, () -> x.solve(500));
        CHECK.due("drawn again: hole 1 weighs 0", 0, () -> x.weights(4));
        x.clear(false);
        x.clear(false);
        CHECK.due("cleared twice: hole", 1, () -> x.hole(3, 3));
        x.clear(false);
        CHECK.due("cleared while drawing: hole", 1, () -> x.hole(3, 3));
    }

    private static void clearChoosesGrid() {
        PegBoards x = new PegBoards();
        x.clear(true);
        CHECK.due("triangular: parity(0)", PegBoards.NONE, () -> x.parity(0));
        x.hole(4, 4);
        x.freeze();
        CHECK.due("triangular: symmetries of one hole", 12, x::symmetries);
        x.clear(false);
        CHECK.due("square: parity(0)", 0, () -> x.parity(0));
        x.hole(4, 4);
        x.freeze();
        CHECK.due("square: symmetries of one hole", 8, x::symmetries);
    }

    private static void holesAreCounted() {
        PegBoards x = new PegBoards();
        CHECK.due("hole(0, 0)", 1, () -> x.hole(0, 0));
        CHECK.due("hole(7, 0)", 2, () -> x.hole(7, 0));
        CHECK.due("hole(0, 7)", 3, () -> x.hole(0, 7));
        CHECK.due("hole(7, 7)", 4, () -> x.hole(7, 7));
    }

    private static void wrongPlaces() {
        PegBoards x = new PegBoards();
        for (int edge : EDGES) {
            CHECK.thrown("hole(" + edge + ", 3)", Check.ARGUMENT, () -> x.hole(edge, 3));
            CHECK.thrown("hole(3, " + edge + ")", Check.ARGUMENT, () -> x.hole(3, edge));
        }
        CHECK.due("hole(3, 3) behind wrong places", 1, () -> x.hole(3, 3));
    }

    private static void holeThatIsThere() {
        PegBoards x = new PegBoards();
        x.hole(2, 5);
        CHECK.thrown("the same hole", Check.STATE, () -> x.hole(2, 5));
        CHECK.due("the mirrored hole", 2, () -> x.hole(5, 2));
    }

    private static void twentyHoles() {
        PegBoards x = Boards.drawn(false, "oooooooo", "oooooooo", "ooo");
        CHECK.due("the twentieth hole", 20, () -> x.hole(7, 0));
        CHECK.thrown("the 21st hole", Check.STATE, () -> x.hole(7, 1));
        x.freeze();
        CHECK.due("the last of twenty", 19, () -> x.at(7, 0));
        CHECK.due("the refused one", PegBoards.NONE, () -> x.at(7, 1));
    }

    private static void placeComesBeforeState() {
        PegBoards x = Boards.frozen(false, "o");
        CHECK.thrown("frozen: hole(1, 1)", Check.STATE, () -> x.hole(1, 1));
        CHECK.thrown("frozen: hole(0, 0)", Check.STATE, () -> x.hole(0, 0));
        CHECK.thrown("frozen: hole(8, 0)", Check.ARGUMENT, () -> x.hole(8, 0));
        CHECK.thrown("frozen: hole(0, -1)", Check.ARGUMENT, () -> x.hole(0, -1));
    }

    private static void freezing() {
        PegBoards x = Boards.drawn(false, "ooo");
        CHECK.due("drawn: symmetries()", 0, x::symmetries);
        CHECK.thrown("drawn: jump(0, 0)", Check.INDEX, () -> x.jump(0, 0));
        CHECK.due("freeze()", 2, x::freeze);
        CHECK.thrown("freeze() again", Check.STATE, x::freeze);
        CHECK.due("jumps stay behind a refused freeze", 0, () -> x.jump(1, 2));
    }

    private static void atPlaces() {
        PegBoards x = Boards.drawn(false, "", " oo", "oo");
        CHECK.due("drawn: at(1, 1)", PegBoards.NONE, () -> x.at(1, 1));
        x.freeze();
        CHECK.due("at(1, 1)", 0, () -> x.at(1, 1));
        CHECK.due("at(1, 2)", 1, () -> x.at(1, 2));
        CHECK.due("at(2, 0)", 2, () -> x.at(2, 0));
        CHECK.due("at(2, 1)", 3, () -> x.at(2, 1));
        CHECK.due("at(0, 0)", PegBoards.NONE, () -> x.at(0, 0));
        CHECK.due("at(1, 8) is not at(2, 0)", PegBoards.NONE, () -> x.at(1, 8));
        CHECK.due("at(3, -8) is not at(2, 0)", PegBoards.NONE, () -> x.at(3, -8));
        for (int edge : EDGES) {
            CHECK.due("at(" + edge + ", 1)", PegBoards.NONE, () -> x.at(edge, 1));
            CHECK.due("at(1, " + edge + ")", PegBoards.NONE, () -> x.at(1, edge));
        }
    }

    private static void numbersByRowsThenColumns() {
        PegBoards x = new PegBoards();
        x.hole(7, 0);
        x.hole(0, 7);
        x.hole(3, 4);
        x.hole(3, 2);
        x.freeze();
        CHECK.due("at(0, 7)", 0, () -> x.at(0, 7));
        CHECK.due("at(3, 2)", 1, () -> x.at(3, 2));
        CHECK.due("at(3, 4)", 2, () -> x.at(3, 4));
        CHECK.due("at(7, 0)", 3, () -> x.at(7, 0));
    }

    private static void jumpIs(PegBoards x, int k, int from, int over, int to) {
        CHECK.due("from of jump " + k, from, () -> x.jump(k, 0));
        CHECK.due("over of jump " + k, over, () -> x.jump(k, 1));
        CHECK.due("to of jump " + k, to, () -> x.jump(k, 2));
    }

    private static void squareJumps() {
        PegBoards x = Boards.drawn(false, "", "  o", "  o", "ooooo", "  o", "  o");
        CHECK.due("cross: freeze()", 12, x::freeze);
        jumpIs(x, 0, 0, 1, 4);
        jumpIs(x, 1, 1, 4, 7);
        jumpIs(x, 2, 2, 3, 4);
        jumpIs(x, 3, 3, 4, 5);
        jumpIs(x, 4, 4, 5, 6);
        jumpIs(x, 5, 4, 7, 8);
        jumpIs(x, 6, 4, 3, 2);
        jumpIs(x, 7, 4, 1, 0);
        jumpIs(x, 8, 5, 4, 3);
        jumpIs(x, 9, 6, 5, 4);
        jumpIs(x, 10, 7, 4, 1);
        jumpIs(x, 11, 8, 7, 4);
    }

    private static void triangularJumps() {
        // A star with all six directions from its middle, which is hole 6.
        PegBoards x = Boards.drawn(true, "  o o", "  oo", "ooooo", " oo", "o o");
        CHECK.due("star: freeze()", 18, x::freeze);
        CHECK.due("star: the middle", 6, () -> x.at(2, 2));
        int first = 0;
        while (x.jump(first, 0) != 6) {
            first++;
        }
        jumpIs(x, first, 6, 7, 8);
        jumpIs(x, first + 1, 6, 10, 12);
        jumpIs(x, first + 2, 6, 9, 11);
        jumpIs(x, first + 3, 6, 5, 4);
        jumpIs(x, first + 4, 6, 2, 0);
        jumpIs(x, first + 5, 6, 3, 1);
        PegBoards square = Boards.drawn(false, "  o", " o", "o");
        CHECK.due("diagonal on the square grid", 0, square::freeze);
        PegBoards falling = Boards.drawn(true, "o", " o", "  o");
        CHECK.due("falling diagonal on the triangular grid", 0, falling::freeze);
        PegBoards rising = Boards.drawn(true, "  o", " o", "o");
        CHECK.due("rising diagonal on the triangular grid", 2, rising::freeze);
        jumpIs(rising, 0, 0, 1, 2);
        jumpIs(rising, 1, 2, 1, 0);
    }

    private static void jumpNeedsThreeHoles() {
        CHECK.due("two holes", 0, Boards.drawn(false, "oo")::freeze);
        CHECK.due("a gap", 0, Boards.drawn(false, "o oo")::freeze);
        CHECK.due("round the edge", 0, Boards.drawn(false, "       o", "oo")::freeze);
    }

    private static void wrongJumps() {
        PegBoards x = Boards.frozen(false, "ooo");
        for (int k : new int[] {Integer.MIN_VALUE, -1, 2, 3, 120, Integer.MAX_VALUE}) {
            CHECK.thrown("jump(" + k + ", 0)", Check.INDEX, () -> x.jump(k, 0));
        }
        for (int what : new int[] {Integer.MIN_VALUE, -1, 3, 4, Integer.MAX_VALUE}) {
            CHECK.thrown("jump(0, " + what + ")", Check.INDEX, () -> x.jump(0, what));
        }
    }

    private static void manyJumps() {
        PegBoards square = Boards.drawn(false, "ooooo", "ooooo", "ooooo", "ooooo");
        CHECK.due("4 x 5: freeze()", 44, square::freeze);
        CHECK.due("from of jump 43", 19, () -> square.jump(43, 0));
        PegBoards triangular = Boards.drawn(true, "ooooo", "ooooo", "ooooo", "ooooo");
        CHECK.due("4 x 5 triangular: freeze()", 56, triangular::freeze);
        CHECK.due("from of jump 55", 19, () -> triangular.jump(55, 0));
        CHECK.thrown("jump(56, 0)", Check.INDEX, () -> triangular.jump(56, 0));
    }
}
