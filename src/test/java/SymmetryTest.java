/** Promises 13 to 16: classes, symmetries, image, least. */
public final class SymmetryTest {
    private static final Check CHECK = new Check();

    public static void main(String[] args) {
        notFrozen();
        numbersOfSymmetries();
        turnsWithoutMirrors();
        squareImages();
        squareImagesInOrder();
        triangularImages();
        imagesInOrderOfAHexagon();
        wrongImages();
        leasts();
        wrongLeasts();
        classesOfPositions();
        CHECK.end();
    }

    private static void notFrozen() {
        PegBoards x = Boards.drawn(false, "oooo");
        CHECK.due("drawn: symmetries()", 0, x::symmetries);
        CHECK.thrown("drawn: image(0, 0)", Check.INDEX, () -> x.image(0, 0));
        CHECK.thrown("drawn: least(0)", Check.STATE, () -> x.least(0));
        CHECK.thrown("drawn: least(1)", Check.ARGUMENT, () -> x.least(1));
        CHECK.thrown("drawn: least(-1)", Check.ARGUMENT, () -> x.least(-1));
    }

    private static void symmetriesAre(int want, boolean triangular, String... rows) {
        PegBoards x = Boards.frozen(triangular, rows);
        CHECK.due("symmetries of " + String.join("/", rows), want, x::symmetries);
    }

    private static void numbersOfSymmetries() {
        symmetriesAre(8, false, "o");
        symmetriesAre(8, false, "oo", "oo");
        symmetriesAre(8, false, " o", "ooo", " o");
        symmetriesAre(4, false, "oooo");
        symmetriesAre(4, false, "", "", "  ooo", "  ooo");
        symmetriesAre(2, false, " oo", "oo");
        symmetriesAre(2, false, "ooo", " o");
        symmetriesAre(2, false, "ooo", "o", "o");
        symmetriesAre(2, false, "ooo", "  o", "  ooo");
        symmetriesAre(1, false, "ooo", "o");
        symmetriesAre(12, true, "o");
        symmetriesAre(12, true, " oo", "ooo", "oo");
        symmetriesAre(6, true, "    o", "   oo", "  ooo", " oooo");
        symmetriesAre(6, true, "oo", "o");
        symmetriesAre(4, true, "oo", "oo");
        symmetriesAre(4, true, "oooo");
        symmetriesAre(4, true, "oooo", "oooo", "oooo", "oooo");
        symmetriesAre(2, true, "ooooo", "ooooo", "ooooo", "ooooo");
        symmetriesAre(1, true, "oooo", "o");
    }

    /** Boards that turns alone leave as they are, so that no mirrored image is a symmetry. */
    private static void turnsWithoutMirrors() {
        imagesAre(Boards.frozen(false, " o", "   o", "o", "  o"), new int[][] {
            {0, 1, 2, 3}, {1, 3, 0, 2}, {3, 2, 1, 0}, {2, 0, 3, 1},
        });
        // Six holes round (3, 3), from (5, 4) on: 4, 5, 3, 1, 0, 2.
        imagesAre(Boards.frozen(true, "     o", "  o", "      o", "", "o", "    o", " o"),
                new int[][] {
                    {0, 1, 2, 3, 4, 5}, {2, 0, 4, 1, 5, 3}, {4, 2, 5, 0, 3, 1},
                    {5, 4, 3, 2, 1, 0}, {3, 5, 1, 4, 0, 2}, {1, 3, 0, 5, 2, 4},
                });
        // Each second one of them: the images 0, 2 and 4.
        imagesAre(Boards.frozen(true, "     o", "", "", "", "o", "    o"),
                new int[][] {{0, 1, 2}, {2, 0, 1}, {1, 2, 0}});
    }

    private static void squareImages() {
        PegBoards x = Boards.frozen(false, "", "", " oooo");
        // The symmetries are the images 0, 2, 5 and 7.
        int[][] want = {{0, 1, 2, 3}, {3, 2, 1, 0}, {0, 1, 2, 3}, {3, 2, 1, 0}};
        imagesAre(x, want);
    }

    private static void imagesAre(PegBoards x, int[][] want) {
        CHECK.due("symmetries()", want.length, x::symmetries);
        for (int k = 0; k < want.length; k++) {
            for (int hole = 0; hole < want[k].length; hole++) {
                int symmetry = k;
                int from = hole;
                CHECK.due("image(" + k + ", " + hole + ")", want[k][hole],
                        () -> x.image(symmetry, from));
            }
        }
    }

    private static void squareImagesInOrder() {
        PegBoards x = Boards.frozen(false, "", "     oo", "     oo");
        // (r, c) to (c, -r): hole 0 at the top left goes to the top right, hole 1 to the bottom
        // right, hole 2 to the top left, hole 3 to the bottom left.
        int[][] want = {
            {0, 1, 2, 3}, {1, 3, 0, 2}, {3, 2, 1, 0}, {2, 0, 3, 1},
            {0, 2, 1, 3}, {2, 3, 0, 1}, {3, 1, 2, 0}, {1, 0, 3, 2},
        };
        imagesAre(x, want);
    }

    private static void triangularImages() {
        PegBoards x = Boards.frozen(true, "", "  oo", "  o");
        // Holes 0 (1, 2), 1 (1, 3), 2 (2, 2). The symmetries are the images 0, 2, 4, 6, 8, 10.
        int[][] want = {{0, 1, 2}, {1, 2, 0}, {2, 0, 1}, {0, 2, 1}, {2, 1, 0}, {1, 0, 2}};
        imagesAre(x, want);
    }

    private static void imagesInOrderOfAHexagon() {
        PegBoards x = Boards.frozen(true, " oo", "ooo", "oo");
        // The holes round the middle (3), each a sixth of a turn behind the one before it.
        int[] round = {4, 6, 5, 2, 0, 1};
        CHECK.due("hexagon: symmetries()", 12, x::symmetries);
        for (int k = 0; k < 6; k++) {
            int turns = k;
            CHECK.due("the middle stays", 3, () -> x.image(turns, 3));
            CHECK.due("the mirrored middle stays", 3, () -> x.image(turns + 6, 3));
            CHECK.due("image(" + k + ", 4)", round[k], () -> x.image(turns, 4));
        }
        // Mirrored: (0, 1) and (1, 0) change places, (0, 2) and (2, 0), (1, 2) and (2, 1).
        int[] mirrored = {2, 5, 0, 3, 6, 1, 4};
        for (int hole = 0; hole < 7; hole++) {
            int from = hole;
            CHECK.due("image(6, " + hole + ")", mirrored[hole], () -> x.image(6, from));
            CHECK.due("image(7, " + hole + ")", mirrored[x.image(1, hole)],
                    () -> x.image(7, from));
        }
    }

    private static void wrongImages() {
        PegBoards x = Boards.frozen(false, "oooo");
        for (int k : new int[] {Integer.MIN_VALUE, -1, 4, 7, 12, Integer.MAX_VALUE}) {
            CHECK.thrown("image(" + k + ", 0)", Check.INDEX, () -> x.image(k, 0));
        }
        for (int hole : new int[] {Integer.MIN_VALUE, -1, 4, 19, 20, Integer.MAX_VALUE}) {
            CHECK.thrown("image(0, " + hole + ")", Check.INDEX, () -> x.image(0, hole));
        }
    }

    private static void leasts() {
        PegBoards line = Boards.frozen(false, "oooo");
        int[] want = {0, 1, 2, 3, 2, 5, 6, 7, 1, 9, 5, 11, 3, 11, 7, 15};
        for (int p = 0; p < want.length; p++) {
            int position = p;
            CHECK.due("line: least(" + p + ")", want[p], () -> line.least(position));
        }
        PegBoards triangle = Boards.frozen(true, "    o", "   oo", "  ooo", " oooo");
        CHECK.due("triangle: least(512)", 1, () -> triangle.least(512));
        CHECK.due("triangle: least(64)", 1, () -> triangle.least(64));
        CHECK.due("triangle: least(16)", 16, () -> triangle.least(16));
        CHECK.due("triangle: least(1022)", 511, () -> triangle.least(1022));
        PegBoards odd = Boards.frozen(false, "ooo", "o");
        CHECK.due("no symmetry: least(8)", 8, () -> odd.least(8));
        CHECK.due("no symmetry: least(15)", 15, () -> odd.least(15));
        PegBoards block = Boards.frozen(false, "oooo", "oooo", "oooo", "oooo", "oooo");
        CHECK.due("20 holes: least(2^19)", 1, () -> block.least(1 << 19));
        CHECK.due("20 holes: least(all)", (1 << 20) - 1, () -> block.least((1 << 20) - 1));
    }

    private static void wrongLeasts() {
        PegBoards x = Boards.frozen(false, "oooo");
        for (int p : new int[] {Integer.MIN_VALUE, -1, 16, 1 << 20, Integer.MAX_VALUE}) {
            CHECK.thrown("least(" + p + ")", Check.ARGUMENT, () -> x.least(p));
        }
    }

    private static void classesOfPositions() {
        PegBoards line = Boards.puzzle(Boards.frozen(false, "oooo"), 11, 2);
        CHECK.due("line: classes(500)", 3, () -> line.classes(500));
        CHECK.due("line: classes(3)", 3, () -> line.classes(3));
        CHECK.due("line: classes(2)", PegBoards.LIMIT, () -> line.classes(2));
        // From the middle two pegs either may jump outwards: 3 positions, 2 of them images.
        line.place(false, 6);
        CHECK.due("middle: count(500)", 3, () -> line.count(500));
        CHECK.due("middle: classes(500)", 2, () -> line.classes(500));
        CHECK.due("the limit is of positions, not of leasts", PegBoards.LIMIT,
                () -> line.classes(2));
        PegBoards triangle = Boards.puzzle(
                Boards.frozen(true, "    o", "   oo", "  ooo", " oooo"), 1022, 1);
        CHECK.due("triangle: classes(500)", 11, () -> triangle.classes(500));
        CHECK.due("triangle: classes(500) again", 11, () -> triangle.classes(500));
        CHECK.due("triangle: classes(41)", PegBoards.LIMIT, () -> triangle.classes(41));
        triangle.place(false, 0);
        CHECK.due("empty: classes(1)", 1, () -> triangle.classes(1));
    }
}
