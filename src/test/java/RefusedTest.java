import java.util.function.Consumer;
import java.util.function.Supplier;

/**
 * "A call that throws changes nothing; where several exceptions that a call names fit, the one
 * named first is thrown." Each refused call is made on one of two objects with the same calls
 * behind them; then both must answer all questions alike.
 */
public final class RefusedTest {
    private static final Check CHECK = new Check();
    private static final int MIN = Integer.MIN_VALUE;
    private static final int MAX = Integer.MAX_VALUE;
    private static final int[] WRONG_PLACES = {MIN, -1, 8, MAX};
    private static final int[] WRONG_LIMITS = {MIN, -1, 0, 501, MAX};
    private static final int[] WRONG_WEIGHTS = {MIN, -1, 61, MAX};

    private final String state;
    private final Supplier<PegBoards> maker;
    /** A place without a hole, where the state is not frozen. */
    private final int freeRow;
    private final int freeColumn;
    private final String telling;

    private RefusedTest(String state, int freeRow, int freeColumn, Supplier<PegBoards> maker) {
        this.state = state;
        this.maker = maker;
        this.freeRow = freeRow;
        this.freeColumn = freeColumn;
        telling = Telling.of(maker.get(), freeRow, freeColumn);
    }

    public static void main(String[] args) {
        notFrozen(new RefusedTest("new", 7, 7, PegBoards::new));
        notFrozen(new RefusedTest("drawn", 7, 7, () -> Boards.drawn(false, "oooo", "", "o")));
        notFrozen(new RefusedTest("drawn triangular", 0, 0,
                () -> Boards.drawn(true, " oo", "ooo")));
        notFrozen(new RefusedTest("20 drawn", 7, 7, RefusedTest::twentyDrawn));
        notFrozen(new RefusedTest("cleared", 7, 7, RefusedTest::cleared));
        notFrozen(new RefusedTest("drawn again", 7, 7, RefusedTest::drawnAgain));
        withoutHole();
        holesThatThereAre();
        moreThan20();
        frozen(new RefusedTest("frozen line", 7, 7, RefusedTest::line), 4, 4, 4);
        frozen(new RefusedTest("frozen triangle", 7, 7, RefusedTest::triangle), 6, 6, 6);
        frozen(new RefusedTest("frozen hole", 7, 7, () -> Boards.frozen(false, "o")), 1, 0, 8);
        frozen(new RefusedTest("20 frozen", 7, 7, RefusedTest::twentyFrozen), 20, 56, 2);
        findOfMoreThan8();
        tellingsDiffer();
        CHECK.end();
    }

    private static PegBoards twentyDrawn() {
        return Boards.drawn(false, "ooooo", "ooooo", "ooooo", "ooooo");
    }

    private static PegBoards cleared() {
        PegBoards x = line();
        x.clear(true);
        return x;
    }

    private static PegBoards drawnAgain() {
        PegBoards x = triangle();
        x.clear(false);
        Boards.draw(x, "", "oooo", " o");
        return x;
    }

    private static PegBoards line() {
        return weighed(Boards.puzzle(Boards.frozen(false, "oooo"), 11, 2), 4);
    }

    private static PegBoards triangle() {
        return weighed(Boards.puzzle(Boards.frozen(true, "  o", " oo", "ooo"), 62, 1), 6);
    }

    private static PegBoards twentyFrozen() {
        return weighed(Boards.puzzle(
                Boards.frozen(true, "ooooo", "ooooo", "ooooo", "ooooo"), 27, 4), 20);
    }

    /** Weights by which the sums show the start and the goal. */
    private static PegBoards weighed(PegBoards x, int holes) {
        for (int hole = 0; hole < holes; hole++) {
            x.weight(hole, hole < 6 ? 1 << hole : 60 - hole);
        }
        return x;
    }

    private void refused(String call, String want, Consumer<PegBoards> made) {
        PegBoards x = maker.get();
        CHECK.does(state + ": " + call, want, () -> made.accept(x));
        CHECK.same(state + " behind the refused " + call, "",
                Telling.difference(telling, Telling.of(x, freeRow, freeColumn)));
    }

    private static void notFrozen(RefusedTest test) {
        CHECK.sentence("A call that throws changes nothing (not frozen)");
        wrongPlaces(test);
        for (int k : new int[] {MIN, -1, 0, 1, MAX}) {
            test.refused("jump(" + k + ", 0)", Check.INDEX, x -> x.jump(k, 0));
            test.refused("after(0, " + k + ")", Check.INDEX, x -> x.after(0, k));
            test.refused("image(" + k + ", 0)", Check.INDEX, x -> x.image(k, 0));
            test.refused("weight(" + k + ", 7)", Check.INDEX, x -> x.weight(k, 7));
        }
        for (int position : new int[] {MIN, -1, 1, 3, 1 << 19, 1 << 20, MAX}) {
            wrongPosition(test, position);
        }
        for (int limit : new int[] {1, 2, 500}) {
            limits(test, limit, Check.STATE);
        }
        for (int what : new int[] {MIN, MIN + 3, -1, 3, 22, 23, MAX}) {
            test.refused("weights(" + what + ")", Check.INDEX, x -> x.weights(what));
        }
        test.refused("least(0)", Check.STATE, x -> x.least(0));
        test.refused("find()", Check.STATE, PegBoards::find);
        CHECK.sentence("where several exceptions that a call names fit, the one named first is"
                + " thrown (not frozen)");
        for (int limit : WRONG_LIMITS) {
            limits(test, limit, Check.STATE);
        }
        for (int position : new int[] {MIN, -1, 1, MAX}) {
            test.refused("least(" + position + ")", Check.ARGUMENT, x -> x.least(position));
            test.refused("after(" + position + ", 0)", Check.INDEX, x -> x.after(position, 0));
        }
        for (int w : WRONG_WEIGHTS) {
            test.refused("weight(0, " + w + ")", Check.INDEX, x -> x.weight(0, w));
        }
    }

    private static void wrongPlaces(RefusedTest test) {
        for (int edge : WRONG_PLACES) {
            test.refused("hole(" + edge + ", 6)", Check.ARGUMENT, x -> x.hole(edge, 6));
            test.refused("hole(6, " + edge + ")", Check.ARGUMENT, x -> x.hole(6, edge));
        }
    }

    private static void wrongPosition(RefusedTest test, int position) {
        test.refused("place(false, " + position + ")", Check.ARGUMENT,
                x -> x.place(false, position));
        test.refused("place(true, " + position + ")", Check.ARGUMENT,
                x -> x.place(true, position));
        test.refused("least(" + position + ")", Check.ARGUMENT, x -> x.least(position));
        test.refused("parity(" + position + ")", Check.ARGUMENT, x -> x.parity(position));
    }

    private static void limits(RefusedTest test, int limit, String want) {
        test.refused("count(" + limit + ")", want, x -> x.count(limit));
        test.refused("solve(" + limit + ")", want, x -> x.solve(limit));
        test.refused("way(" + limit + ", 0)", want, x -> x.way(limit, 0));
        test.refused("moves(" + limit + ")", want, x -> x.moves(limit));
        test.refused("classes(" + limit + ")", want, x -> x.classes(limit));
    }

    private static void withoutHole() {
        CHECK.sentence("A call that throws changes nothing (freeze without a hole)");
        new RefusedTest("new", 7, 7, PegBoards::new)
                .refused("freeze()", Check.STATE, PegBoards::freeze);
        new RefusedTest("cleared", 7, 7, RefusedTest::cleared)
                .refused("freeze()", Check.STATE, PegBoards::freeze);
    }

    private static void holesThatThereAre() {
        CHECK.sentence("A call that throws changes nothing (a hole that there is)");
        RefusedTest test = new RefusedTest("drawn", 7, 7,
                () -> Boards.drawn(false, "ooo", "", "o"));
        test.refused("hole(0, 0)", Check.STATE, x -> x.hole(0, 0));
        test.refused("hole(0, 2)", Check.STATE, x -> x.hole(0, 2));
        test.refused("hole(2, 0)", Check.STATE, x -> x.hole(2, 0));
    }

    private static void moreThan20() {
        CHECK.sentence("A call that throws changes nothing (hole 21)");
        RefusedTest test = new RefusedTest("20 drawn", 7, 7, RefusedTest::twentyDrawn);
        test.refused("hole(4, 0)", Check.STATE, x -> x.hole(4, 0));
        test.refused("hole(0, 5)", Check.STATE, x -> x.hole(0, 5));
        test.refused("hole(7, 7)", Check.STATE, x -> x.hole(7, 7));
        test.refused("hole(0, 0), which there is", Check.STATE, x -> x.hole(0, 0));
        CHECK.sentence("where several exceptions that a call names fit, the one named first is"
                + " thrown (hole 21)");
        wrongPlaces(test);
    }

    private static void frozen(RefusedTest test, int holes, int jumps, int symmetries) {
        CHECK.sentence("A call that throws changes nothing (frozen)");
        test.refused("hole(7, 7)", Check.STATE, x -> x.hole(7, 7));
        test.refused("hole(0, 0)", Check.STATE, x -> x.hole(0, 0));
        test.refused("freeze()", Check.STATE, PegBoards::freeze);
        for (int k : new int[] {MIN, -1, jumps, MAX}) {
            test.refused("jump(" + k + ", 0)", Check.INDEX, x -> x.jump(k, 0));
            test.refused("after(1, " + k + ")", Check.INDEX, x -> x.after(1, k));
        }
        for (int what : new int[] {MIN, -1, 3, MAX}) {
            test.refused("jump(0, " + what + ")", Check.INDEX, x -> x.jump(0, what));
        }
        for (int k : new int[] {MIN, -1, symmetries, MAX}) {
            test.refused("image(" + k + ", 0)", Check.INDEX, x -> x.image(k, 0));
        }
        for (int hole : new int[] {MIN, -1, holes, MAX}) {
            test.refused("image(0, " + hole + ")", Check.INDEX, x -> x.image(0, hole));
            test.refused("weight(" + hole + ", 7)", Check.INDEX, x -> x.weight(hole, 7));
        }
        for (int position : new int[] {MIN, -1, 1 << holes, (2 << holes) - 1, MAX}) {
            wrongPosition(test, position);
            if (jumps > 0) {
                test.refused("after(" + position + ", 0)", Check.ARGUMENT,
                        x -> x.after(position, 0));
            }
        }
        for (int limit : WRONG_LIMITS) {
            limits(test, limit, Check.ARGUMENT);
        }
        for (int w : WRONG_WEIGHTS) {
            test.refused("weight(0, " + w + ")", Check.ARGUMENT, x -> x.weight(0, w));
        }
        for (int what : new int[] {MIN, MIN + 2, MIN + 3, -1, 3 + holes, MAX}) {
            test.refused("weights(" + what + ")", Check.INDEX, x -> x.weights(what));
        }
        severalFit(test, holes, jumps);
    }

    private static void severalFit(RefusedTest test, int holes, int jumps) {
        CHECK.sentence("where several exceptions that a call names fit, the one named first is"
                + " thrown (frozen)");
        wrongPlaces(test);
        for (int k : new int[] {MIN, -1, jumps, MAX}) {
            for (int position : new int[] {MIN, -1, 1 << holes, MAX}) {
                test.refused("after(" + position + ", " + k + ")", Check.INDEX,
                        x -> x.after(position, k));
            }
        }
        for (int hole : new int[] {MIN, -1, holes, MAX}) {
            for (int w : WRONG_WEIGHTS) {
                test.refused("weight(" + hole + ", " + w + ")", Check.INDEX,
                        x -> x.weight(hole, w));
            }
        }
    }

    private static void findOfMoreThan8() {
        CHECK.sentence("A call that throws changes nothing (find of more than 8 holes)");
        new RefusedTest("20 frozen", 7, 7, RefusedTest::twentyFrozen)
                .refused("find()", Check.STATE, PegBoards::find);
        new RefusedTest("nine frozen", 7, 7, () -> weighed(
                Boards.puzzle(Boards.frozen(false, "ooo", "ooo", "ooo"), 1, 510), 9))
                .refused("find()", Check.STATE, PegBoards::find);
    }

    /** A telling that leaves a change out would let every test above pass. */
    private static void tellingsDiffer() {
        CHECK.sentence("");
        String four = Telling.of(line(), 7, 7);
        differs("another start", four, line -> line.place(false, 3));
        differs("another goal", four, line -> line.place(true, 3));
        differs("another weight", four, line -> line.weight(3, 9));
        differs("found weights", four, line -> {
            line.place(false, 0);
            line.find();
            line.place(false, 11);
        });
        differs("a cleared board", four, line -> line.clear(false));
        String three = Telling.of(Boards.drawn(false, "ooo"), 7, 7);
        String more = Telling.of(Boards.drawn(false, "oooo"), 7, 7);
        CHECK.same("a hole more is told", "true",
                Boolean.toString(!Telling.difference(three, more).isEmpty()));
    }

    private static void differs(String what, String telling, Consumer<PegBoards> change) {
        PegBoards x = line();
        change.accept(x);
        String told = Telling.of(x, 7, 7);
        CHECK.same(what + " is told", "true",
                Boolean.toString(!Telling.difference(telling, told).isEmpty()));
    }
}
