/** The boundary cases of promises 14 to 17: one test for each sentence. */
public final class SymmetryEdgeTest {
    private static final Check CHECK = new Check();
    private static final int MIN = Integer.MIN_VALUE;
    private static final int MAX = Integer.MAX_VALUE;
    private static final String[] BLOCK = {"ooooo", "ooooo", "ooooo", "ooooo"};
    private static final int ALL_20 = (1 << 20) - 1;

    public static void main(String[] args) {
        howManySymmetries();
        symmetriesNotFrozen();
        imageOfASymmetry();
        imageWithoutSuchSymmetry();
        imageWithoutSuchHole();
        imageNotFrozen();
        leastOfAPosition();
        leastWithoutSuchHole();
        leastNotFrozen();
        parityOfAPosition();
        parityOnTheTriangularGrid();
        parityWithoutSuchHole();
        CHECK.end();
    }

    private static void howManySymmetries() {
        CHECK.sentence("Promise 14: How many symmetries there are");
        CHECK.due("only the board itself", 1, Boards.frozen(false, "ooo", "o")::symmetries);
        CHECK.due("only the triangular board itself", 1,
                Boards.frozen(true, "oooo", "o")::symmetries);
        CHECK.due("all of the square grid", 8, Boards.frozen(false, "oo", "oo")::symmetries);
        CHECK.due("all of the triangular grid", 12,
                Boards.frozen(true, " oo", "ooo", "oo")::symmetries);
        CHECK.due("20 holes", 4, Boards.frozen(false, BLOCK)::symmetries);
        PegBoards x = Boards.frozen(true, "o");
        x.clear(false);
        Boards.draw(x, "ooo", "o");
        x.freeze();
        CHECK.due("fewer than the board before", 1, x::symmetries);
    }

    private static void symmetriesNotFrozen() {
        CHECK.sentence("Promise 14: 0 when the board is not frozen");
        CHECK.due("new", 0, new PegBoards()::symmetries);
        CHECK.due("drawn", 0, Boards.drawn(false, "ooo")::symmetries);
        PegBoards x = Boards.frozen(false, "ooo");
        x.clear(true);
        CHECK.due("cleared", 0, x::symmetries);
        Boards.draw(x, "ooo");
        CHECK.due("drawn again", 0, x::symmetries);
    }

    private static void imageOfASymmetry() {
        CHECK.sentence("Promise 15: The hole to which the k-th symmetry (by the numbers of the"
                + " images) takes a hole");
        // Of a line the images 0, 2, 5 and 7 are symmetries, with the numbers 0 to 3.
        PegBoards line = Boards.frozen(false, "ooo");
        int[] want = {0, 2, 0, 2};
        for (int k = 0; k < 4; k++) {
            int symmetry = k;
            CHECK.due("image(" + k + ", 0)", want[k], () -> line.image(symmetry, 0));
            CHECK.due("image(" + k + ", 1)", 1, () -> line.image(symmetry, 1));
            CHECK.due("image(" + k + ", 2)", 2 - want[k], () -> line.image(symmetry, 2));
        }
        PegBoards full = Boards.frozen(false, BLOCK);
        CHECK.due("the first hole", 19, () -> full.image(1, 0));
        CHECK.due("the last hole", 0, () -> full.image(1, 19));
    }

    private static void imageWithoutSuchSymmetry() {
        CHECK.sentence("Promise 15: IndexOutOfBoundsException when there is no such symmetry");
        PegBoards line = Boards.frozen(false, "ooo");
        for (int k : new int[] {MIN, -1, 4, 5, 7, 8, 11, 12, MAX}) {
            CHECK.thrown("image(" + k + ", 0)", Check.INDEX, () -> line.image(k, 0));
        }
        PegBoards one = Boards.frozen(false, "o");
        CHECK.due("square: image(7, 0)", 0, () -> one.image(7, 0));
        CHECK.thrown("square: image(8, 0)", Check.INDEX, () -> one.image(8, 0));
        PegBoards triangular = Boards.frozen(true, "o");
        CHECK.due("triangular: image(11, 0)", 0, () -> triangular.image(11, 0));
        CHECK.thrown("triangular: image(12, 0)", Check.INDEX, () -> triangular.image(12, 0));
        PegBoards alone = Boards.frozen(false, "ooo", "o");
        CHECK.due("alone: image(0, 3)", 3, () -> alone.image(0, 3));
        CHECK.thrown("alone: image(1, 3)", Check.INDEX, () -> alone.image(1, 3));
    }

    private static void imageWithoutSuchHole() {
        CHECK.sentence("Promise 15: IndexOutOfBoundsException when there is no such hole");
        PegBoards line = Boards.frozen(false, "ooo");
        for (int hole : new int[] {MIN, -1, 3, 4, 19, 20, MAX}) {
            CHECK.thrown("image(0, " + hole + ")", Check.INDEX, () -> line.image(0, hole));
            CHECK.thrown("image(4, " + hole + ")", Check.INDEX, () -> line.image(4, hole));
        }
        PegBoards full = Boards.frozen(false, BLOCK);
        CHECK.due("image(0, 19)", 19, () -> full.image(0, 19));
        CHECK.thrown("image(0, 20)", Check.INDEX, () -> full.image(0, 20));
    }

    private static void imageNotFrozen() {
        CHECK.sentence("Promise 18: none when the board is not frozen; so for image()");
        PegBoards fresh = new PegBoards();
        PegBoards drawn = Boards.drawn(true, "ooo");
        PegBoards cleared = Boards.frozen(true, "ooo");
        cleared.clear(true);
        CHECK.thrown("new: image(0, 0)", Check.INDEX, () -> fresh.image(0, 0));
        CHECK.thrown("drawn: image(0, 0)", Check.INDEX, () -> drawn.image(0, 0));
        CHECK.thrown("cleared: image(0, 0)", Check.INDEX, () -> cleared.image(0, 0));
    }

    private static void leastOfAPosition() {
        CHECK.sentence("Promise 16: The least of a position");
        PegBoards x = Boards.frozen(false, "ooo");
        int[] want = {0, 1, 2, 3, 1, 5, 3, 7};
        for (int p = 0; p < want.length; p++) {
            int position = p;
            CHECK.due("least(" + p + ")", want[p], () -> x.least(position));
        }
        PegBoards full = Boards.frozen(true, BLOCK);
        CHECK.due("20 holes: least(0)", 0, () -> full.least(0));
        CHECK.due("20 holes: least(all)", ALL_20, () -> full.least(ALL_20));
        CHECK.due("20 holes: least(the last)", 1, () -> full.least(1 << 19));
    }

    private static void leastWithoutSuchHole() {
        CHECK.sentence("Promise 16: IllegalArgumentException when that has a hole that there is"
                + " none");
        PegBoards x = Boards.frozen(false, "ooo");
        for (int p : new int[] {MIN, MIN + 7, -8, -1, 8, 15, 1 << 20, 1 << 30, MAX}) {
            CHECK.thrown("least(" + p + ")", Check.ARGUMENT, () -> x.least(p));
        }
        PegBoards full = Boards.frozen(true, BLOCK);
        CHECK.thrown("20 holes: least(2^20)", Check.ARGUMENT, () -> full.least(1 << 20));
    }

    private static void leastNotFrozen() {
        CHECK.sentence("Promise 16: IllegalStateException when the board is not frozen");
        PegBoards fresh = new PegBoards();
        PegBoards drawn = Boards.drawn(false, "ooo");
        PegBoards cleared = Boards.frozen(false, "ooo");
        cleared.clear(false);
        CHECK.thrown("new: least(0)", Check.STATE, () -> fresh.least(0));
        CHECK.thrown("drawn: least(0)", Check.STATE, () -> drawn.least(0));
        CHECK.thrown("cleared: least(0)", Check.STATE, () -> cleared.least(0));
    }

    private static void parityOfAPosition() {
        CHECK.sentence("Promise 17: The class of a position");
        PegBoards x = Boards.frozen(false, "ooo");
        // The holes have the classes 8 + 2, 8 + 4 + 1 and 4 + 2 + 1.
        int[] want = {0, 10, 13, 7, 7, 13, 10, 0};
        for (int p = 0; p < want.length; p++) {
            int position = p;
            CHECK.due("parity(" + p + ")", want[p], () -> x.parity(position));
        }
        PegBoards drawn = Boards.drawn(false, "ooo");
        CHECK.due("not frozen: parity(0)", 0, () -> drawn.parity(0));
        PegBoards full = Boards.frozen(false, BLOCK);
        // In each row of five three holes in a line come to 0, so two are left in each.
        CHECK.due("20 holes: parity(all)", full.parity(3 + (3 << 5) + (3 << 10) + (3 << 15)),
                () -> full.parity(ALL_20));
    }

    private static void parityOnTheTriangularGrid() {
        CHECK.sentence("Promise 17: NONE on the triangular grid");
        PegBoards x = Boards.frozen(true, "ooo");
        for (int p = 0; p < 8; p++) {
            int position = p;
            CHECK.due("parity(" + p + ")", PegBoards.NONE, () -> x.parity(position));
        }
        PegBoards drawn = Boards.drawn(true, "ooo");
        CHECK.due("not frozen: parity(0)", PegBoards.NONE, () -> drawn.parity(0));
    }

    private static void parityWithoutSuchHole() {
        CHECK.sentence("Promise 17: IllegalArgumentException when that has a hole that there is"
                + " none");
        PegBoards square = Boards.frozen(false, "ooo");
        PegBoards triangular = Boards.frozen(true, "ooo");
        PegBoards drawn = Boards.drawn(false, "ooo");
        PegBoards drawnTriangular = Boards.drawn(true, "ooo");
        for (int p : new int[] {MIN, MIN + 7, -8, -1, 8, 15, 1 << 20, 1 << 30, MAX}) {
            CHECK.thrown("parity(" + p + ")", Check.ARGUMENT, () -> square.parity(p));
            CHECK.thrown("triangular: parity(" + p + ")", Check.ARGUMENT,
                    () -> triangular.parity(p));
        }
        for (int p : new int[] {MIN, -1, 1, 7, MAX}) {
            CHECK.thrown("not frozen: parity(" + p + ")", Check.ARGUMENT, () -> drawn.parity(p));
            CHECK.thrown("not frozen, triangular: parity(" + p + ")", Check.ARGUMENT,
                    () -> drawnTriangular.parity(p));
        }
    }
}
