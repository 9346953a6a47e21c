/** The boundary cases under "Terms", and of an object's calls: one test for each sentence. */
public final class TermsEdgeTest {
    private static final Check CHECK = new Check();
    private static final int NONE = PegBoards.NONE;
    private static final String[] BLOCK = {"ooooo", "ooooo", "ooooo", "ooooo"};
    private static final int ALL_20 = (1 << 20) - 1;

    public static void main(String[] args) {
        calls512();
        atMost20Holes();
        placesFrom0To7();
        numbersByRowsAndThenColumns();
        squareNeighbours();
        triangularNeighbours();
        noNeighbourRoundTheEdge();
        jumpsOfThreeHoles();
        numbersOfJumps();
        positionsAsNumbers();
        jumpThatCanBeMade();
        startAndGoalAreEmptyAtFirst();
        waysToTheGoal();
        movesOfSolutions();
        imagesWithTheSameHoles();
        imagesByTurns();
        imagesMirrored();
        imagesAreMoved();
        leastOfAPosition();
        evenAndOdd();
        diagonalsByThrees();
        weightsFrom0To60();
        weightsThatHold();
        sumOfAPosition();
        constants();
        CHECK.end();
    }

    private static void calls512() {
        CHECK.sentence("An object is used for at most 512 calls");
        PegBoards x = new PegBoards();
        for (int round = 0; round < 64; round++) {
            boolean triangular = round % 2 == 1;
            x.clear(triangular);
            for (int c = 0; c < 3; c++) {
                x.hole(round % 8, c);
            }
            x.freeze();
            x.place(false, 3);
            x.place(true, 4);
            CHECK.due("call " + (8 * round + 8) + ": solve(500)", 1, () -> x.solve(500));
        }
    }

    private static void atMost20Holes() {
        CHECK.sentence("A BOARD is drawn as at most 20 HOLES");
        PegBoards x = new PegBoards();
        for (int i = 0; i < 20; i++) {
            int place = 3 * i;
            CHECK.due("hole " + i, i + 1, () -> x.hole(place / 8, place % 8));
        }
        CHECK.thrown("hole 20", Check.STATE, () -> x.hole(7, 7));
        x.freeze();
        for (int i = 0; i < 20; i++) {
            int place = 3 * i;
            CHECK.due("the number of hole " + i, i, () -> x.at(place / 8, place % 8));
        }
        PegBoards one = Boards.frozen(false, "o");
        CHECK.due("a board of one hole", 0, () -> one.at(0, 0));
    }

    private static void placesFrom0To7() {
        CHECK.sentence("at places (row, column), each 0 .. 7");
        for (int place = 0; place < 64; place++) {
            PegBoards x = new PegBoards();
            int r = place / 8;
            int c = place % 8;
            CHECK.due("hole(" + r + ", " + c + ")", 1, () -> x.hole(r, c));
            x.freeze();
            CHECK.due("at(" + r + ", " + c + ")", 0, () -> x.at(r, c));
            CHECK.due("at the place behind", NONE, () -> x.at(r, c + 1));
            CHECK.due("at the place below", NONE, () -> x.at(r + 1, c));
        }
    }

    private static void numbersByRowsAndThenColumns() {
        CHECK.sentence("FROZEN, its holes have numbers 0, 1, .. by rows and then columns");
        PegBoards x = new PegBoards();
        int[] places = {63, 56, 44, 43, 35, 7, 1, 0};
        for (int place : places) {
            x.hole(place / 8, place % 8);
        }
        CHECK.due("not frozen: at(0, 0)", NONE, () -> x.at(0, 0));
        x.freeze();
        for (int i = 0; i < places.length; i++) {
            int place = places[i];
            CHECK.due("at(" + place / 8 + ", " + place % 8 + ")", places.length - 1 - i,
                    () -> x.at(place / 8, place % 8));
        }
    }

    private static void jumpIs(PegBoards x, int k, int from, int over, int to) {
        CHECK.due("from of jump " + k, from, () -> x.jump(k, 0));
        CHECK.due("over of jump " + k, over, () -> x.jump(k, 1));
        CHECK.due("to of jump " + k, to, () -> x.jump(k, 2));
    }

    private static void jumpsAre(int want, boolean triangular, String... rows) {
        CHECK.due((triangular ? "triangular " : "square ") + String.join("/", rows) + ": freeze()",
                want, Boards.drawn(triangular, rows)::freeze);
    }

    private static void squareNeighbours() {
        CHECK.sentence("on the square grid those at (0, 1), (1, 0), (0, -1), (-1, 0) from it");
        PegBoards x = Boards.frozen(
                false, "", "", "", "    o", "    o", "  ooooo", "    o", "    o");
        // The middle is hole 4; from it to the right, down, to the left, up.
        jumpIs(x, 4, 4, 5, 6);
        jumpIs(x, 5, 4, 7, 8);
        jumpIs(x, 6, 4, 3, 2);
        jumpIs(x, 7, 4, 1, 0);
        jumpsAre(0, false, "o", " o", "  o");
        jumpsAre(0, false, "  o", " o", "o");
    }

    private static void triangularNeighbours() {
        CHECK.sentence("on the triangular one those at"
                + " (0, 1), (1, 0), (1, -1), (0, -1), (-1, 0), (-1, 1)");
        PegBoards x = Boards.frozen(true, "", "", "", "     o o", "     oo", "   ooooo", "    oo",
                "   o o");
        // The middle is hole 6; of each hole before it only the jump over its neighbour to it.
        jumpIs(x, 6, 6, 7, 8);
        jumpIs(x, 7, 6, 10, 12);
        jumpIs(x, 8, 6, 9, 11);
        jumpIs(x, 9, 6, 5, 4);
        jumpIs(x, 10, 6, 2, 0);
        jumpIs(x, 11, 6, 3, 1);
        jumpsAre(0, true, "o", " o", "  o");
        jumpsAre(2, true, "  o", " o", "o");
    }

    private static void noNeighbourRoundTheEdge() {
        CHECK.sentence("NEIGHBOURS of a place, round the edge of the places");
        for (boolean triangular : new boolean[] {false, true}) {
            jumpsAre(0, triangular, "      oo", "o");
            jumpsAre(0, triangular, "       o", "oo");
            jumpsAre(0, triangular, "      oo", "", "o");
            jumpsAre(0, triangular, "oo     o");
            jumpsAre(0, triangular, "o     oo");
            jumpsAre(0, triangular, "o", "", "", "", "", "", "o", "o");
            jumpsAre(0, triangular, "o", "o", "", "", "", "", "", "o");
            jumpsAre(0, triangular, " o", "o      o");
            jumpsAre(0, triangular, "", "o      o", "      o");
            jumpsAre(0, triangular, "o      o", "      o");
        }
        CHECK.sentence("NEIGHBOURS of a place, at the edge of the places");
        for (boolean triangular : new boolean[] {false, true}) {
            jumpsAre(2, triangular, "     ooo");
            jumpsAre(2, triangular, "ooo");
            jumpsAre(2, triangular, "", "", "", "", "", "", "", "     ooo");
            jumpsAre(2, triangular, "o", "o", "o");
            jumpsAre(2, triangular, "", "", "", "", "", "       o", "       o", "       o");
            jumpsAre(12, triangular, "oooooooo");
        }
        jumpsAre(2, true, "  o", " o", "o");
        jumpsAre(2, true, "", "", "", "", "", "       o", "      o", "     o");
    }

    private static void jumpsOfThreeHoles() {
        CHECK.sentence("TO the next one in that direction, all of them holes");
        jumpsAre(2, false, "ooo");
        jumpsAre(0, false, "oo");
        jumpsAre(0, false, "o o");
        jumpsAre(0, false, "oo o");
        jumpsAre(0, false, "oo", "", "oo");
        jumpsAre(0, true, "oo", "oo");
        jumpsAre(0, true, "o o o", "", "o o o");
    }

    private static void numbersOfJumps() {
        CHECK.sentence("they have numbers 0, 1, .. by the holes from, and then by directions");
        PegBoards x = Boards.frozen(false, "ooo", "o o", "ooo");
        int[][] want = {{0, 1, 2}, {0, 3, 5}, {2, 4, 7}, {2, 1, 0},
            {5, 6, 7}, {5, 3, 0}, {7, 6, 5}, {7, 4, 2}};
        for (int k = 0; k < want.length; k++) {
            jumpIs(x, k, want[k][0], want[k][1], want[k][2]);
        }
        CHECK.thrown("jump(8, 0)", Check.INDEX, () -> x.jump(8, 0));
    }

    private static void positionsAsNumbers() {
        CHECK.sentence("A POSITION is also the number that is the sum of 2^k for its holes k");
        PegBoards x = Boards.frozen(false, BLOCK);
        for (int hole = 0; hole < 20; hole++) {
            x.weight(hole, hole + 1);
        }
        x.place(false, ALL_20);
        CHECK.due("the full start's sum", 210, () -> x.weights(1));
        for (int hole = 0; hole < 20; hole++) {
            x.place(false, 1 << hole);
            x.place(true, ALL_20 - (1 << hole));
            int w = hole + 1;
            CHECK.due("the sum of hole " + hole, w, () -> x.weights(1));
            CHECK.due("the sum of all others", 210 - w, () -> x.weights(2));
        }
        x.place(false, 0);
        CHECK.due("the empty start's sum", 0, () -> x.weights(1));
    }

    private static void jumpThatCanBeMade() {
        CHECK.sentence("A jump can be made in a position that has from and over, and not to");
        PegBoards x = Boards.frozen(false, "ooo");
        int[] right = {NONE, NONE, NONE, 4, NONE, NONE, NONE, NONE};
        int[] left = {NONE, NONE, NONE, NONE, NONE, NONE, 1, NONE};
        for (int p = 0; p < 8; p++) {
            int position = p;
            CHECK.due("after(" + p + ", 0)", right[p], () -> x.after(position, 0));
            CHECK.due("after(" + p + ", 1)", left[p], () -> x.after(position, 1));
        }
        PegBoards full = Boards.frozen(false, BLOCK);
        // The last jump is from hole 19 over 14 to 9.
        jumpIs(full, 43, 19, 14, 9);
        CHECK.due("all but to", ALL_20 - (1 << 19) - (1 << 14),
                () -> full.after(ALL_20 - (1 << 9), 43));
        CHECK.due("all", NONE, () -> full.after(ALL_20, 43));
    }

    private static void startAndGoalAreEmptyAtFirst() {
        CHECK.sentence("The START and the GOAL are positions, empty at first");
        PegBoards x = Boards.frozen(false, "ooo");
        for (int hole = 0; hole < 3; hole++) {
            x.weight(hole, 60);
        }
        CHECK.due("the start's sum", 0, () -> x.weights(1));
        CHECK.due("the goal's sum", 0, () -> x.weights(2));
        CHECK.due("count(1)", 1, () -> x.count(1));
        CHECK.due("solve(1)", 1, () -> x.solve(1));
        CHECK.due("moves(1)", 0, () -> x.moves(1));
    }

    private static void waysToTheGoal() {
        CHECK.sentence("THE WAY to the goal, if that is found, are the jumps by which it comes from"
                + " the start, from the first one on");
        PegBoards x = Boards.puzzle(Boards.frozen(false, "ooooo"), 11, 16);
        CHECK.due("way(500, 0)", 0, () -> x.way(500, 0));
        CHECK.due("way(500, 1)", 2, () -> x.way(500, 1));
        CHECK.due("behind its end", NONE, () -> x.way(500, 2));
        x.place(true, 11);
        CHECK.due("an empty way", NONE, () -> x.way(500, 0));
        x.place(false, 0);
        x.place(true, 0);
        CHECK.due("an empty way of an empty position", NONE, () -> x.way(500, 0));
    }

    private static void movesOfSolutions() {
        CHECK.sentence("jumps one behind the other with the same peg are one move");
        PegBoards line = Boards.frozen(false, "ooooooo");
        CHECK.due("no jump", 0, () -> Boards.puzzle(line, 3, 3).moves(500));
        CHECK.due("one jump", 1, () -> Boards.puzzle(line, 3, 4).moves(500));
        CHECK.due("two jumps of one peg", 1, () -> Boards.puzzle(line, 11, 16).moves(500));
        CHECK.due("three jumps of one peg", 1, () -> Boards.puzzle(line, 43, 64).moves(500));
        PegBoards four = Boards.puzzle(Boards.frozen(false, "oooo"), 11, 2);
        CHECK.due("two pegs", 2, () -> four.moves(500));
        PegBoards apart = Boards.puzzle(Boards.frozen(false, "ooo ooo"), 3 + 48, 4 + 8);
        CHECK.due("two pegs far apart", 2, () -> apart.moves(500));
        // Peg 0 goes over 1, only then peg 4 over 3 into hole 1, and peg 0 back over that.
        PegBoards between = Boards.puzzle(Boards.frozen(false, "ooo", " o", " o"), 27, 1);
        CHECK.due("a jump between the jumps of a peg", 3, () -> between.moves(500));
    }

    private static void symmetriesAre(int want, boolean triangular, String... rows) {
        CHECK.due((triangular ? "triangular " : "square ") + String.join("/", rows)
                + ": symmetries()", want, Boards.frozen(triangular, rows)::symmetries);
    }

    private static void imagesWithTheSameHoles() {
        CHECK.sentence("SYMMETRIES of a board are the images of it that have just the same holes");
        symmetriesAre(8, false, "o");
        symmetriesAre(12, true, "o");
        symmetriesAre(1, false, "oo", "oo", " oo", "o");
        symmetriesAre(1, true, "oo oo", "o");
        // The quarter turn of a long line would leave the places, or has other rows.
        symmetriesAre(4, false, "oooooooo");
        symmetriesAre(4, false, "", "", "", "", "", "", "", "oooooooo");
        symmetriesAre(4, true, "", "", "", "", "", "", "", "oooooooo");
        symmetriesAre(4, false, "       o", "       o", "       o");
        symmetriesAre(4, true, "       o", "       o", "       o");
        symmetriesAre(8, false, "o      o", "", "", "", "", "", "", "o      o");
    }

    private static void imageIs(PegBoards x, int k, int... want) {
        for (int hole = 0; hole < want.length; hole++) {
            int from = hole;
            CHECK.due("image(" + k + ", " + hole + ")", want[hole], () -> x.image(k, from));
        }
    }

    private static void imagesByTurns() {
        CHECK.sentence("place (r, c) goes, k % n times one behind the other, to (c, -r) on the"
                + " square grid");
        PegBoards square = Boards.frozen(false, "oo", "oo");
        imageIs(square, 0, 0, 1, 2, 3);
        imageIs(square, 1, 1, 3, 0, 2);
        imageIs(square, 2, 3, 2, 1, 0);
        imageIs(square, 3, 2, 0, 3, 1);
        CHECK.sentence("to (r + c, -r) on the triangular one");
        PegBoards hexagon = Boards.frozen(true, " oo", "ooo", "oo");
        imageIs(hexagon, 0, 0, 1, 2, 3, 4, 5, 6);
        imageIs(hexagon, 1, 1, 4, 0, 3, 6, 2, 5);
        imageIs(hexagon, 2, 4, 6, 1, 3, 5, 0, 2);
        imageIs(hexagon, 5, 2, 0, 5, 3, 1, 6, 4);
    }

    private static void imagesMirrored() {
        CHECK.sentence("then, if k is n or more, to (c, r); k is 0 .. 2 n - 1");
        PegBoards square = Boards.frozen(false, "oo", "oo");
        imageIs(square, 4, 0, 2, 1, 3);
        imageIs(square, 5, 2, 3, 0, 1);
        imageIs(square, 7, 1, 0, 3, 2);
        CHECK.thrown("image(8, 0)", Check.INDEX, () -> square.image(8, 0));
        PegBoards hexagon = Boards.frozen(true, " oo", "ooo", "oo");
        imageIs(hexagon, 6, 2, 5, 0, 3, 6, 1, 4);
        imageIs(hexagon, 7, 5, 6, 2, 3, 4, 0, 1);
        imageIs(hexagon, 11, 0, 2, 1, 3, 5, 4, 6);
        CHECK.thrown("image(12, 0)", Check.INDEX, () -> hexagon.image(12, 0));
    }

    private static void imagesAreMoved() {
        CHECK.sentence("so that their least row and least column are those of the board");
        String[] corners = {"oo", "oo"};
        int[][] places = {{0, 0}, {0, 6}, {6, 0}, {6, 6}, {3, 5}};
        for (int[] place : places) {
            PegBoards x = movedTo(false, place[0], place[1], corners);
            CHECK.due("square at " + place[0] + ", " + place[1], 8, x::symmetries);
            imageIs(x, 1, 1, 3, 0, 2);
            PegBoards t = movedTo(true, place[0], place[1], "oo", "o");
            CHECK.due("triangle at " + place[0] + ", " + place[1], 6, t::symmetries);
            imageIs(t, 1, 1, 2, 0);
        }
        // One hole alone is in the least column, or comes to be in the least row or column.
        symmetriesAre(2, false, " o", "o", " o");
        symmetriesAre(2, false, "o", " o", "o");
        symmetriesAre(2, false, "", "  ooo", "   o");
        symmetriesAre(2, false, "", "   o", "  ooo");
        symmetriesAre(2, true, " oo", "o");
        symmetriesAre(2, true, "  o", "oo");
    }

    private static PegBoards movedTo(boolean triangular, int row, int column, String... rows) {
        PegBoards x = new PegBoards();
        x.clear(triangular);
        for (int r = 0; r < rows.length; r++) {
            for (int c = 0; c < rows[r].length(); c++) {
                x.hole(row + r, column + c);
            }
        }
        x.freeze();
        return x;
    }

    private static void leastOfAPosition() {
        CHECK.sentence("THE LEAST of a position: the least number that one of the symmetries makes"
                + " of it");
        PegBoards x = Boards.frozen(false, BLOCK);
        CHECK.due("the empty one", 0, () -> x.least(0));
        CHECK.due("the full one", ALL_20, () -> x.least(ALL_20));
        CHECK.due("hole 0", 1, () -> x.least(1));
        CHECK.due("hole 4", 1, () -> x.least(1 << 4));
        CHECK.due("hole 15", 1, () -> x.least(1 << 15));
        CHECK.due("hole 19", 1, () -> x.least(1 << 19));
        CHECK.due("all but hole 0", ALL_20 >> 1, () -> x.least(ALL_20 - 1));
        PegBoards alone = Boards.frozen(false, "ooo", "o");
        CHECK.due("only the board itself", 8, () -> alone.least(8));
    }

    private static void evenAndOdd() {
        CHECK.sentence("each 0 or 1 as there is an even or an odd number");
        // Six holes three apart: all of the same places by threes.
        PegBoards x = Boards.frozen(false, "o  o  o", "", "", "o  o  o");
        int[] want = {0, 10, 0, 10, 0, 10, 0};
        for (int holes = 0; holes <= 6; holes++) {
            int position = (1 << holes) - 1;
            CHECK.due("parity of " + holes + " holes", want[holes], () -> x.parity(position));
        }
    }

    private static void diagonalsByThrees() {
        CHECK.sentence("a of its holes with (r + c) % 3 being 0 or 1, b with that being 1 or 2;"
                + " c and d likewise by (r - c + 9) % 3");
        PegBoards corner = Boards.frozen(false, "       o", "", "", "", "", "", "", "o");
        // (0, 7): (r + c) % 3 is 1, (r - c + 9) % 3 is 2. (7, 0): both are 1.
        CHECK.due("parity(1) of (0, 7)", 13, () -> corner.parity(1));
        CHECK.due("parity(2) of (7, 0)", 15, () -> corner.parity(2));
        PegBoards ends = Boards.frozen(false, "o", "", "", "", "", "", "", "       o");
        // (0, 0): both are 0. (7, 7): 14 % 3 is 2, and 0.
        CHECK.due("parity(1) of (0, 0)", 10, () -> ends.parity(1));
        CHECK.due("parity(2) of (7, 7)", 6, () -> ends.parity(2));
    }

    private static void weightsFrom0To60() {
        CHECK.sentence("WEIGHTS: each hole has one, 0 .. 60 (0 at first)");
        PegBoards x = Boards.frozen(false, BLOCK);
        for (int hole = 0; hole < 20; hole++) {
            int k = hole;
            CHECK.due("hole " + k + " at first", 0, () -> x.weights(3 + k));
            CHECK.does("weight(" + k + ", 60)", Check.DONE, () -> x.weight(k, 60));
            CHECK.due("hole " + k + " then", 60, () -> x.weights(3 + k));
            CHECK.does("weight(" + k + ", 61)", Check.ARGUMENT, () -> x.weight(k, 61));
            CHECK.does("weight(" + k + ", -1)", Check.ARGUMENT, () -> x.weight(k, -1));
            CHECK.due("hole " + k + " still", 60, () -> x.weights(3 + k));
            CHECK.does("weight(" + k + ", 0)", Check.DONE, () -> x.weight(k, 0));
            CHECK.due("hole " + k + " again", 0, () -> x.weights(3 + k));
        }
    }

    private static void holds(int want, int w0, int w1, int w2) {
        PegBoards x = Boards.frozen(false, "ooo");
        x.weight(0, w0);
        x.weight(1, w1);
        x.weight(2, w2);
        CHECK.due("weights " + w0 + ", " + w1 + ", " + w2, want, () -> x.weights(0));
    }

    private static void weightsThatHold() {
        CHECK.sentence("They HOLD if no jump raises them: the weight of to is at most those of from"
                + " and over together");
        holds(1, 0, 0, 0);
        holds(1, 20, 40, 60);
        holds(0, 20, 39, 60);
        holds(0, 19, 40, 60);
        holds(1, 60, 40, 20);
        holds(0, 60, 39, 20);
        holds(1, 60, 60, 60);
        holds(0, 0, 0, 1);
        holds(0, 1, 0, 0);
        holds(1, 0, 60, 0);
        PegBoards last = Boards.frozen(true, BLOCK);
        for (int hole = 0; hole < 20; hole++) {
            last.weight(hole, hole == 19 ? 0 : 1);
        }
        CHECK.due("the last hole may weigh less", 1, () -> last.weights(0));
        last.weight(19, 3);
        CHECK.due("jumps to the last hole raise", 0, () -> last.weights(0));
        last.weight(19, 2);
        CHECK.due("they do not", 1, () -> last.weights(0));
    }

    private static void sumOfAPosition() {
        CHECK.sentence("The SUM of a position is that of its holes' weights");
        PegBoards x = Boards.frozen(false, BLOCK);
        for (int hole = 0; hole < 20; hole++) {
            x.weight(hole, 60);
        }
        Boards.puzzle(x, 0, ALL_20);
        CHECK.due("of the empty one", 0, () -> x.weights(1));
        CHECK.due("of the full one", 1200, () -> x.weights(2));
        Boards.puzzle(x, 1 << 19, 1);
        x.weight(0, 0);
        CHECK.due("of the last hole", 60, () -> x.weights(1));
        CHECK.due("of a hole of weight 0", 0, () -> x.weights(2));
    }

    private static void constants() {
        CHECK.sentence("LIMIT = -2: The limit is met");
        CHECK.due("LIMIT", -2, () -> PegBoards.LIMIT);
        CHECK.due("NONE", -1, () -> NONE);
        PegBoards x = Boards.puzzle(Boards.frozen(false, "ooo"), 3, 7);
        CHECK.due("count(1)", -2, () -> x.count(1));
    }
}
