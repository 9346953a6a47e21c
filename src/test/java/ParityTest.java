/** Promise 17: parity. */
public final class ParityTest {
    private static final Check CHECK = new Check();

    public static void main(String[] args) {
        classOfEachPlace();
        sums();
        noJumpChangesTheClass();
        triangular();
        notFrozen();
        wrongPositions();
        CHECK.end();
    }

    private static void classOfEachPlace() {
        // Of (r + c) % 3: 0 is 8, 1 is 12, 2 is 4. Of (r - c) % 3: 0 is 2, 1 is 3, 2 is 1.
        int[] up = {8, 12, 4};
        int[] down = {2, 3, 1};
        for (int r = 0; r < 8; r++) {
            for (int c = 0; c < 8; c++) {
                PegBoards x = new PegBoards();
                x.hole(r, c);
                x.freeze();
                int want = up[Math.floorMod(r + c, 3)] + down[Math.floorMod(r - c, 3)];
                CHECK.due("parity(1) of a hole at " + r + ", " + c, want, () -> x.parity(1));
            }
        }
    }

    private static void sums() {
        PegBoards x = Boards.frozen(false, "", "", " oooo");
        CHECK.due("parity(0)", 0, () -> x.parity(0));
        CHECK.due("parity(11)", 14, () -> x.parity(11));
        CHECK.due("parity(2)", 14, () -> x.parity(2));
        // Holes 0 and 3 stand three apart: the same places by threes, so an even number of each.
        CHECK.due("parity(9)", 0, () -> x.parity(9));
        CHECK.due("three in a line", 0, () -> x.parity(7));
        PegBoards full = Boards.frozen(false, "ooooo", "ooooo", "ooooo", "ooooo");
        CHECK.due("all of 20 holes", full.parity(3) ^ full.parity((1 << 20) - 4),
                () -> full.parity((1 << 20) - 1));
    }

    private static void noJumpChangesTheClass() {
        PegBoards x = Boards.frozen(false, "", "  ooo", "  ooo", " oooo", " oo");
        for (int position = 0; position < 1 << 12; position++) {
            for (int k = 0; k < 12; k++) {
                int next = x.after(position, k);
                if (next != PegBoards.NONE) {
                    int from = position;
                    CHECK.due("parity behind jump " + k + " in " + from, x.parity(from),
                            () -> x.parity(next));
                }
            }
        }
    }

    private static void triangular() {
        PegBoards x = Boards.frozen(true, "ooo");
        CHECK.due("triangular: parity(0)", PegBoards.NONE, () -> x.parity(0));
        CHECK.due("triangular: parity(5)", PegBoards.NONE, () -> x.parity(5));
        CHECK.thrown("triangular: parity(8)", Check.ARGUMENT, () -> x.parity(8));
    }

    private static void notFrozen() {
        PegBoards square = Boards.drawn(false, "ooo");
        PegBoards triangles = Boards.drawn(true, "ooo");
        CHECK.due("drawn: parity(0)", 0, () -> square.parity(0));
        CHECK.thrown("drawn: parity(1)", Check.ARGUMENT, () -> square.parity(1));
        CHECK.due("drawn triangular: parity(0)", PegBoards.NONE, () -> triangles.parity(0));
        CHECK.thrown("drawn triangular: parity(1)", Check.ARGUMENT, () -> triangles.parity(1));
    }

    private static void wrongPositions() {
        PegBoards x = Boards.frozen(false, "oooo");
        for (int p : new int[] {Integer.MIN_VALUE, -1, 16, 1 << 20, Integer.MAX_VALUE}) {
            CHECK.thrown("parity(" + p + ")", Check.ARGUMENT, () -> x.parity(p));
        }
    }
}
