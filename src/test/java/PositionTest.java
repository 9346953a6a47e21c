/** Promises 7 and 8: place, after. */
public final class PositionTest {
    private static final Check CHECK = new Check();

    public static void main(String[] args) {
        placingStartAndGoal();
        wrongPositions();
        notFrozen();
        jumpsMade();
        wrongCallsOfAfter();
        CHECK.end();
    }

    private static void placingStartAndGoal() {
        PegBoards x = Boards.frozen(false, "oooo");
        x.weight(0, 1);
        x.weight(1, 10);
        x.weight(2, 20);
        x.weight(3, 40);
        CHECK.does("place(false, 11)", Check.DONE, () -> x.place(false, 11));
        CHECK.due("the start's sum", 51, () -> x.weights(1));
        CHECK.due("the goal is still empty", 0, () -> x.weights(2));
        CHECK.does("place(true, 15)", Check.DONE, () -> x.place(true, 15));
        CHECK.due("the start stays", 51, () -> x.weights(1));
        CHECK.due("the goal's sum", 71, () -> x.weights(2));
        CHECK.does("place(false, 0)", Check.DONE, () -> x.place(false, 0));
        CHECK.due("the start is empty", 0, () -> x.weights(1));
        CHECK.due("the goal stays", 71, () -> x.weights(2));
        CHECK.does("place(false, 16)", Check.ARGUMENT, () -> x.place(false, 16));
        CHECK.does("place(true, 16)", Check.ARGUMENT, () -> x.place(true, 16));
        CHECK.due("a refused start changes nothing", 0, () -> x.weights(1));
        CHECK.due("a refused goal changes nothing", 71, () -> x.weights(2));
    }

    private static void wrongPositions() {
        PegBoards x = Boards.frozen(false, "oooo");
        PegBoards full = Boards.frozen(false, "oooooooo", "oooooooo", "oooo");
        CHECK.does("all 20 holes", Check.DONE, () -> full.place(false, (1 << 20) - 1));
        CHECK.does("hole 20 of 20", Check.ARGUMENT, () -> full.place(false, 1 << 20));
        for (int p : new int[] {Integer.MIN_VALUE, -1, -16, 16, 31, 1 << 20, Integer.MAX_VALUE}) {
            CHECK.does("place(true, " + p + ")", Check.ARGUMENT, () -> x.place(true, p));
            CHECK.thrown("after(" + p + ", 0)", Check.ARGUMENT, () -> x.after(p, 0));
        }
    }

    private static void notFrozen() {
        PegBoards x = Boards.drawn(false, "oooo");
        CHECK.does("drawn: place(false, 0)", Check.DONE, () -> x.place(false, 0));
        CHECK.does("drawn: place(true, 0)", Check.DONE, () -> x.place(true, 0));
        CHECK.does("drawn: place(false, 1)", Check.ARGUMENT, () -> x.place(false, 1));
        CHECK.does("drawn: place(true, -1)", Check.ARGUMENT, () -> x.place(true, -1));
        CHECK.thrown("drawn: after(0, 0)", Check.INDEX, () -> x.after(0, 0));
        CHECK.thrown("drawn: after(1, 0)", Check.INDEX, () -> x.after(1, 0));
    }

    private static void jumpsMade() {
        PegBoards x = Boards.frozen(false, "oooo");
        // The jumps: 0 1 2, 1 2 3, 2 1 0, 3 2 1.
        CHECK.due("after(11, 0)", 12, () -> x.after(11, 0));
        CHECK.due("after(3, 0)", 4, () -> x.after(3, 0));
        CHECK.due("after(6, 1)", 8, () -> x.after(6, 1));
        CHECK.due("after(6, 2)", 1, () -> x.after(6, 2));
        CHECK.due("after(13, 3)", 3, () -> x.after(13, 3));
        CHECK.due("no from", PegBoards.NONE, () -> x.after(2, 0));
        CHECK.due("no over", PegBoards.NONE, () -> x.after(1, 0));
        CHECK.due("to is taken", PegBoards.NONE, () -> x.after(7, 0));
        CHECK.due("no pegs", PegBoards.NONE, () -> x.after(0, 0));
        CHECK.due("all pegs", PegBoards.NONE, () -> x.after(15, 0));
        CHECK.due("the start does not matter", 1, () -> x.count(500));
    }

    private static void wrongCallsOfAfter() {
        PegBoards x = Boards.frozen(false, "oooo");
        for (int k : new int[] {Integer.MIN_VALUE, -1, 4, 120, Integer.MAX_VALUE}) {
            CHECK.thrown("after(3, " + k + ")", Check.INDEX, () -> x.after(3, k));
            CHECK.thrown("after(16, " + k + ")", Check.INDEX, () -> x.after(16, k));
        }
    }
}
