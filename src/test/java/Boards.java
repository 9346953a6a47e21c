/** Boards that several tests use. */
final class Boards {
    private Boards() {
    }

    /** A drawn board, not frozen: each text is a row, each 'o' in it a hole. */
    static PegBoards drawn(boolean triangular, String... rows) {
        PegBoards x = new PegBoards();
        x.clear(triangular);
        draw(x, rows);
        return x;
    }

    static PegBoards frozen(boolean triangular, String... rows) {
        PegBoards x = drawn(triangular, rows);
        x.freeze();
        return x;
    }

    static void draw(PegBoards x, String... rows) {
        for (int r = 0; r < rows.length; r++) {
            for (int c = 0; c < rows[r].length(); c++) {
                if (rows[r].charAt(c) == 'o') {
                    x.hole(r, c);
                }
            }
        }
    }

    static PegBoards puzzle(PegBoards x, int start, int goal) {
        x.place(false, start);
        x.place(true, goal);
        return x;
    }
}
