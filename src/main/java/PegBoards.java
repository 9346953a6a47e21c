import java.util.Arrays;

/**
 * A laboratory for peg puzzles on boards of any small shape: which positions can be reached, a way
 * to the goal or that there is none, the fewest moves when jumps of one peg in a row are one, the
 * board's symmetries, classes that no jump changes, and weights that no jump raises.
 */
public final class PegBoards {
    public static final int NONE = -1;
    public static final int LIMIT = -2;

    private static final int SIDE = 8;
    private static final int MOST_HOLES = 20;
    private static final int MOST_JUMPS = 6 * MOST_HOLES;
    private static final int MOST_IMAGES = 12;
    private static final int MOST_POSITIONS = 500;
    /** Each move takes a peg away at least, and the last peg stays. */
    private static final int TOO_MANY_MOVES = MOST_HOLES;
    private static final int MOST_WEIGHT = 60;
    private static final int MOST_HOLES_TO_TRY = 8;
    private static final int MOST_WEIGHT_TO_TRY = 2;

    private static final int[] SQUARE_ROW_STEPS = {0, 1, 0, -1};
    private static final int[] SQUARE_COLUMN_STEPS = {1, 0, -1, 0};
    private static final int[] TRIANGULAR_ROW_STEPS = {0, 1, 1, 0, -1, -1};
    private static final int[] TRIANGULAR_COLUMN_STEPS = {1, 0, -1, -1, 0, 1};

    private final Board board;
    private final Jumps jumps;
    private final Symmetries images;
    private final Reaching reaching;
    private final Weights weighing;
    private int start;
    private int goal;

    public PegBoards() {
        board = new Board();
        jumps = new Jumps();
        images = new Symmetries();
        reaching = new Reaching();
        weighing = new Weights();
    }

    public void clear(boolean triangular) {
        board.wipe(triangular);
        jumps.forget();
        images.forget();
        weighing.forget();
        start = 0;
        goal = 0;
    }

    public int hole(int r, int c) throws IllegalArgumentException, IllegalStateException {
        if (!isPlace(r, c)) {
            throw new IllegalArgumentException("no such place");
        }
        if (!board.canDraw(r, c)) {
            throw new IllegalStateException("no hole can be drawn there now");
        }
        return board.draw(r, c);
    }

    public int freeze() throws IllegalStateException {
        if (!board.canBeNumbered()) {
            throw new IllegalStateException("the board is frozen or has no hole");
        }
        board.numberHoles();
        jumps.list(board);
        images.list(board);
        return jumps.size();
    }

    public int at(int r, int c) {
        return board.numberAt(r, c);
    }

    public int jump(int k, int what) throws IndexOutOfBoundsException {
        requireJump(k);
        switch (what) {
            case 0:
                return jumps.from(k);
            case 1:
                return jumps.over(k);
            case 2:
                return jumps.to(k);
            default:
                throw new IndexOutOfBoundsException("no such part of a jump");
        }
    }

    public void place(boolean goal, int position) throws IllegalArgumentException {
        requirePosition(position);
        if (goal) {
            this.goal = position;
        } else {
            start = position;
        }
    }

    public int after(int position, int k)
            throws IndexOutOfBoundsException, IllegalArgumentException {
        requireJump(k);
        requirePosition(position);
        return jumps.make(position, k);
    }

    public int count(int limit) throws IllegalStateException, IllegalArgumentException {
        reachWithin(limit);
        return reaching.limitMet() ? LIMIT : reaching.size();
    }

    public int solve(int limit) throws IllegalStateException, IllegalArgumentException {
        reachWithin(limit);
        if (reaching.has(goal)) {
            return 1;
        }
        return reaching.limitMet() ? LIMIT : 0;
    }

    public int way(int limit, int i) throws IllegalStateException, IllegalArgumentException {
        reachWithin(limit);
        return reaching.jumpOnWay(start, goal, i);
    }

    public int moves(int limit) throws IllegalStateException, IllegalArgumentException {
        reachWithin(limit);
        return reaching.limitMet() ? LIMIT : reaching.fewestMoves(goal);
    }

    public int classes(int limit) throws IllegalStateException, IllegalArgumentException {
        reachWithin(limit);
        return reaching.limitMet() ? LIMIT : reaching.differentLeasts(images);
    }

    public int symmetries() {
        return images.size();
    }

    public int image(int k, int hole) throws IndexOutOfBoundsException {
        if (k < 0 || k >= images.size()) {
            throw new IndexOutOfBoundsException("no such symmetry");
        }
        requireHole(hole);
        return images.holeOf(k, hole);
    }

    public int least(int position) throws IllegalArgumentException, IllegalStateException {
        requirePosition(position);
        requireFrozen();
        return images.leastOf(position);
    }

    public int parity(int position) throws IllegalArgumentException {
        requirePosition(position);
        return board.isTriangular() ? NONE : board.classOf(position);
    }

    public void weight(int hole, int w) throws IndexOutOfBoundsException, IllegalArgumentException {
        requireHole(hole);
        if (w < 0 || w > MOST_WEIGHT) {
            throw new IllegalArgumentException("no such weight");
        }
        weighing.put(hole, w);
    }

    public int weights(int what) throws IndexOutOfBoundsException {
        switch (what) {
            case 0:
                return weighing.hold(jumps) ? 1 : 0;
            case 1:
                return weighing.sumOf(start);
            case 2:
                return weighing.sumOf(goal);
            default:
                // Subtracting from a negative number could wrap round to a hole that there is.
                if (what < 0) {
                    throw new IndexOutOfBoundsException("less than 0");
                }
                requireHole(what - 3);
                return weighing.of(what - 3);
        }
    }

    public boolean find() throws IllegalStateException {
        requireFrozen();
        if (board.holes() > MOST_HOLES_TO_TRY) {
            throw new IllegalStateException("too many holes to try weights");
        }
        return weighing.search(jumps, board.holes(), start, goal);
    }

    private void reachWithin(int limit) {
        requireFrozen();
        if (limit < 1 || limit > MOST_POSITIONS) {
            throw new IllegalArgumentException("no such limit");
        }
        reaching.run(jumps, start, limit);
    }

    private void requireFrozen() {
        if (!board.isFrozen()) {
            throw new IllegalStateException("the board is not frozen");
        }
    }

    private void requirePosition(int position) {
        if ((position & ~board.allHoles()) != 0) {
            throw new IllegalArgumentException("the position has a hole that there is none");
        }
    }

    private void requireJump(int k) {
        if (k < 0 || k >= jumps.size()) {
            throw new IndexOutOfBoundsException("no such jump");
        }
    }

    private void requireHole(int hole) {
        if (hole < 0 || hole >= board.holes()) {
            throw new IndexOutOfBoundsException("no such hole");
        }
    }

    private static boolean isPlace(int r, int c) {
        return r >= 0 && r < SIDE && c >= 0 && c < SIDE;
    }

    private static boolean contains(int position, int hole) {
        return ((position >> hole) & 1) == 1;
    }

    private static int leastIn(int[] row, int length) {
        int result = row[0];
        for (int i = 1; i < length; i++) {
            result = Math.min(result, row[i]);
        }
        return result;
    }

    /** The grid and the holes on it. */
    private static final class Board {
        /** Of each place: NONE without a hole, else the hole's number, which is 0 till frozen. */
        private final int[] numbers = new int[SIDE * SIDE];
        private final int[] rows = new int[MOST_HOLES];
        private final int[] columns = new int[MOST_HOLES];
        private boolean triangular;
        private boolean frozen;
        private int drawn;

        Board() {
            Arrays.fill(numbers, NONE);
        }

        void wipe(boolean onTriangles) {
            Arrays.fill(numbers, NONE);
            triangular = onTriangles;
            frozen = false;
            drawn = 0;
        }

        boolean canDraw(int r, int c) {
            return !frozen && drawn < MOST_HOLES && numbers[r * SIDE + c] == NONE;
        }

        int draw(int r, int c) {
            numbers[r * SIDE + c] = 0;
            drawn++;
            return drawn;
        }

        boolean canBeNumbered() {
            return !frozen && drawn > 0;
        }

        void numberHoles() {
            int next = 0;
            for (int place = 0; place < numbers.length; place++) {
                if (numbers[place] != NONE && next < MOST_HOLES) {
                    numbers[place] = next;
                    rows[next] = place / SIDE;
                    columns[next] = place % SIDE;
                    next++;
                }
            }
            frozen = true;
        }

        boolean isTriangular() {
            return triangular;
        }

        boolean isFrozen() {
            return frozen;
        }

        /** How many holes have a number. */
        int holes() {
            return frozen ? drawn : 0;
        }

        /** The position of all holes that have a number. */
        int allHoles() {
            return (1 << holes()) - 1;
        }

        int numberAt(int r, int c) {
            return frozen && isPlace(r, c) ? numbers[r * SIDE + c] : NONE;
        }

        int rowOf(int hole) {
            return rows[hole];
        }

        int columnOf(int hole) {
            return columns[hole];
        }

        int leastRow() {
            return leastIn(rows, holes());
        }

        int leastColumn() {
            return leastIn(columns, holes());
        }

        int classOf(int position) {
            int result = 0;
            for (int hole = 0; hole < holes(); hole++) {
                if (contains(position, hole)) {
                    int up = (rows[hole] + columns[hole]) % 3;
                    int down = (rows[hole] - columns[hole] + 9) % 3;
                    result ^= 4 * colours(up) + colours(down);
                }
            }
            return result;
        }

        /** 2 for a diagonal 0 or 1, and 1 for a diagonal 1 or 2. */
        private static int colours(int diagonal) {
            return (diagonal != 2 ? 2 : 0) + (diagonal != 0 ? 1 : 0);
        }
    }

    /** All jumps of a frozen board, by their numbers. */
    private static final class Jumps {
        private final int[] froms = new int[MOST_JUMPS];
        private final int[] overs = new int[MOST_JUMPS];
        private final int[] tos = new int[MOST_JUMPS];
        /** Of each jump: the position of from and over. */
        private final int[] pegs = new int[MOST_JUMPS];
        /** Of each jump: the position of from, over and to. */
        private final int[] touched = new int[MOST_JUMPS];
        private int size;

        void forget() {
            size = 0;
        }

        void list(Board board) {
            int[] rowSteps = board.isTriangular() ? TRIANGULAR_ROW_STEPS : SQUARE_ROW_STEPS;
            int[] columnSteps =
                    board.isTriangular() ? TRIANGULAR_COLUMN_STEPS : SQUARE_COLUMN_STEPS;
            for (int hole = 0; hole < board.holes(); hole++) {
                for (int direction = 0; direction < rowSteps.length; direction++) {
                    listOne(board, hole, rowSteps[direction], columnSteps[direction]);
                }
            }
        }

        private void listOne(Board board, int from, int rowStep, int columnStep) {
            int r = board.rowOf(from);
            int c = board.columnOf(from);
            int over = board.numberAt(r + rowStep, c + columnStep);
            int to = board.numberAt(r + 2 * rowStep, c + 2 * columnStep);
            if (over != NONE && to != NONE && size < MOST_JUMPS) {
                froms[size] = from;
                overs[size] = over;
                tos[size] = to;
                pegs[size] = (1 << from) | (1 << over);
                touched[size] = pegs[size] | (1 << to);
                size++;
            }
        }

        int size() {
            return size;
        }

        int from(int k) {
            return froms[k];
        }

        int over(int k) {
            return overs[k];
        }

        int to(int k) {
            return tos[k];
        }

        /** The position behind jump k; NONE when it can not be made. */
        int make(int position, int k) {
            return (position & touched[k]) == pegs[k] ? position ^ touched[k] : NONE;
        }
    }

    /** The symmetries of a frozen board, by the numbers of the images. */
    private static final class Symmetries {
        /** Of each symmetry, the hole to which it takes each hole. */
        private final int[][] taken = new int[MOST_IMAGES][MOST_HOLES];
        private final int[] imageRows = new int[MOST_HOLES];
        private final int[] imageColumns = new int[MOST_HOLES];
        private int holes;
        private int size;

        void forget() {
            size = 0;
        }

        void list(Board board) {
            int turns = board.isTriangular() ? 6 : 4;
            holes = board.holes();
            for (int k = 0; k < 2 * turns; k++) {
                for (int hole = 0; hole < holes; hole++) {
                    turn(board, hole, k % turns);
                    if (k >= turns) {
                        mirror(hole);
                    }
                }
                moveBy(board.leastRow() - leastIn(imageRows, holes), imageRows);
                moveBy(board.leastColumn() - leastIn(imageColumns, holes), imageColumns);
                addIfSameHoles(board);
            }
        }

        private void turn(Board board, int hole, int times) {
            int r = board.rowOf(hole);
            int c = board.columnOf(hole);
            for (int i = 0; i < times; i++) {
                int turned = board.isTriangular() ? r + c : c;
                c = -r;
                r = turned;
            }
            imageRows[hole] = r;
            imageColumns[hole] = c;
        }

        private void mirror(int hole) {
            int row = imageRows[hole];
            imageRows[hole] = imageColumns[hole];
            imageColumns[hole] = row;
        }

        private void moveBy(int shift, int[] rowsOrColumns) {
            for (int hole = 0; hole < holes; hole++) {
                rowsOrColumns[hole] += shift;
            }
        }

        /** An image of the holes has as many places as they are, so none may miss a hole. */
        private void addIfSameHoles(Board board) {
            for (int hole = 0; hole < holes; hole++) {
                int image = board.numberAt(imageRows[hole], imageColumns[hole]);
                if (image == NONE || size >= MOST_IMAGES) {
                    return;
                }
                taken[size][hole] = image;
            }
            size++;
        }

        int size() {
            return size;
        }

        int holeOf(int k, int hole) {
            return taken[k][hole];
        }

        int leastOf(int position) {
            int result = position;
            for (int k = 0; k < size; k++) {
                result = Math.min(result, imageOf(k, position));
            }
            return result;
        }

        private int imageOf(int k, int position) {
            int result = 0;
            for (int hole = 0; hole < holes; hole++) {
                if (contains(position, hole)) {
                    result |= 1 << taken[k][hole];
                }
            }
            return result;
        }
    }

    /** Different positions with the numbers 0, 1, .. in the order in which they came. */
    private static final class Found {
        /** More than twice the positions, so that a free slot is always near. */
        private static final int SLOTS = 1024;

        private final int[] positions = new int[MOST_POSITIONS];
        /** Of each slot: 0 when it is free, else 1 more than the number of its position. */
        private final int[] slots = new int[SLOTS];
        private int size;

        void forget() {
            Arrays.fill(slots, 0);
            size = 0;
        }

        int size() {
            return size;
        }

        int positionOf(int number) {
            return positions[number];
        }

        /** The number of a position; NONE when it did not come. */
        int numberOf(int position) {
            return slots[slotFor(position)] - 1;
        }

        /** As numberOf, but a new position gets a number; NONE when it is one beyond the limit. */
        int numberWithin(int limit, int position) {
            int slot = slotFor(position);
            if (slots[slot] == 0) {
                if (size >= limit || size >= MOST_POSITIONS) {
                    return NONE;
                }
                positions[size] = position;
                size++;
                slots[slot] = size;
            }
            return slots[slot] - 1;
        }

        /** The slot that has the position, or the free one that it would get. */
        private int slotFor(int position) {
            int slot = (position ^ (position >> 10)) & (SLOTS - 1);
            for (int step = 0; step < SLOTS && !isFreeOrHas(slot, position); step++) {
                slot = (slot + 1) & (SLOTS - 1);
            }
            return slot;
        }

        private boolean isFreeOrHas(int slot, int position) {
            return slots[slot] == 0 || positions[slots[slot] - 1] == position;
        }
    }

    /** The positions that were found from a start within a limit, and how. */
    private static final class Reaching {
        private final Found found = new Found();
        private final Found leasts = new Found();
        /** Of each position but the start: the number of the one it comes from. */
        private final int[] cameFrom = new int[MOST_POSITIONS];
        /** Of each position but the start: the jump by which it comes. */
        private final int[] cameBy = new int[MOST_POSITIONS];
        private final int[] fewest = new int[MOST_POSITIONS];
        /**
         * Of each position: the holes to which the last jump can have gone in the fewest moves. A
         * row of jumps with a move more need not be kept: even if its last peg can go on, a new
         * move behind the fewest is as good.
         */
        private final int[] lastHoles = new int[MOST_POSITIONS];
        private boolean limitMet;

        void run(Jumps jumps, int start, int limit) {
            found.forget();
            limitMet = false;
            found.numberWithin(limit, start);
            fewest[0] = 0;
            lastHoles[0] = 0;
            for (int i = 0; i < limit && i < found.size() && !limitMet; i++) {
                goOnFrom(i, jumps, limit);
            }
        }

        private void goOnFrom(int number, Jumps jumps, int limit) {
            int position = found.positionOf(number);
            for (int k = 0; k < jumps.size() && !limitMet; k++) {
                int next = jumps.make(position, k);
                if (next != NONE) {
                    int before = found.size();
                    int target = found.numberWithin(limit, next);
                    if (target == NONE) {
                        limitMet = true;
                    } else {
                        if (target == before) {
                            enter(target, number, k);
                        }
                        addMoves(number, target, jumps.from(k), jumps.to(k));
                    }
                }
            }
        }

        private void enter(int number, int from, int jump) {
            cameFrom[number] = from;
            cameBy[number] = jump;
            fewest[number] = TOO_MANY_MOVES;
        }

        /**
         * Each jump takes a peg away, so all jumps to a position come from smaller numbers, and the
         * fewest moves of a position are settled before it is gone through.
         */
        private void addMoves(int source, int target, int from, int to) {
            int through = fewest[source] + (contains(lastHoles[source], from) ? 0 : 1);
            if (through < fewest[target]) {
                fewest[target] = through;
                lastHoles[target] = 0;
            }
            if (through == fewest[target]) {
                lastHoles[target] |= 1 << to;
            }
        }

        boolean limitMet() {
            return limitMet;
        }

        int size() {
            return found.size();
        }

        boolean has(int position) {
            return found.numberOf(position) != NONE;
        }

        int fewestMoves(int goal) {
            int number = found.numberOf(goal);
            return number == NONE ? NONE : fewest[number];
        }

        int jumpOnWay(int start, int goal, int i) {
            int number = found.numberOf(goal);
            int length = Integer.bitCount(start) - Integer.bitCount(goal);
            if (number == NONE || i < 0 || i >= length) {
                return NONE;
            }
            for (int last = length - 1; last > i; last--) {
                number = cameFrom[number];
            }
            return cameBy[number];
        }

        int differentLeasts(Symmetries images) {
            leasts.forget();
            for (int number = 0; number < found.size(); number++) {
                leasts.numberWithin(MOST_POSITIONS, images.leastOf(found.positionOf(number)));
            }
            return leasts.size();
        }
    }

    /** The weights of the holes. */
    private static final class Weights {
        private final int[] kept = new int[MOST_HOLES];
        private final int[] tried = new int[MOST_HOLES_TO_TRY];

        void forget() {
            Arrays.fill(kept, 0);
        }

        void put(int hole, int w) {
            kept[hole] = w;
        }

        int of(int hole) {
            return kept[hole];
        }

        int sumOf(int position) {
            int sum = 0;
            for (int hole = 0; hole < kept.length; hole++) {
                if (contains(position, hole)) {
                    sum += kept[hole];
                }
            }
            return sum;
        }

        boolean hold(Jumps jumps) {
            for (int k = 0; k < jumps.size(); k++) {
                if (kept[jumps.to(k)] > kept[jumps.from(k)] + kept[jumps.over(k)]) {
                    return false;
                }
            }
            return true;
        }

        boolean search(Jumps jumps, int holes, int start, int goal) {
            if (!tryFrom(0, 0, jumps, holes, start, goal)) {
                return false;
            }
            System.arraycopy(tried, 0, kept, 0, holes);
            return true;
        }

        /**
         * Tries weights of a hole and of all behind it; the lead is by how much the holes before it
         * make the sum of the goal greater than that of the start. What can not bring a lead in the
         * end is not tried.
         */
        private boolean tryFrom(
                int hole, int lead, Jumps jumps, int holes, int start, int goal) {
            int holesThatAdd = (goal & ~start) >> hole;
            if (lead + MOST_WEIGHT_TO_TRY * Integer.bitCount(holesThatAdd) <= 0) {
                return false;
            }
            if (hole >= holes || hole >= MOST_HOLES_TO_TRY) {
                return true;
            }
            int gain = (contains(goal, hole) ? 1 : 0) - (contains(start, hole) ? 1 : 0);
            for (int w = 0; w <= MOST_WEIGHT_TO_TRY; w++) {
                tried[hole] = w;
                if (triedHold(hole, jumps)
                        && tryFrom(hole + 1, lead + w * gain, jumps, holes, start, goal)) {
                    return true;
                }
            }
            return false;
        }

        /** Looks at the jumps whose last hole is this one; those before it hold already. */
        private boolean triedHold(int hole, Jumps jumps) {
            for (int k = 0; k < jumps.size(); k++) {
                int from = jumps.from(k);
                int over = jumps.over(k);
                int to = jumps.to(k);
                if (Math.max(from, Math.max(over, to)) == hole
                        && tried[to] > tried[from] + tried[over]) {
                    return false;
                }
            }
            return true;
        }
    }
}
