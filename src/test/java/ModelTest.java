import java.util.HashMap;
import java.util.Map;

/** All promises: rows of made-up calls, each answered as PlainBoards answers it. */
public final class ModelTest {
    private static final int RUNS = 250;
    private static final int CALLS = 512;
    private static final String[] NAMES = {
        "clear", "hole", "freeze", "at", "jump", "place", "after", "count", "solve", "way", "moves",
        "classes", "symmetries", "image", "least", "parity", "weight", "weights", "find",
    };
    private static final int[] EDGES = {
        Integer.MIN_VALUE, Integer.MIN_VALUE + 3, -2, -1, 0, 1, 7, 8, 20, 60, 61, 500, 501,
        (1 << 20) - 1, 1 << 20, Integer.MAX_VALUE,
    };

    private final Check check = new Check();
    /** How often each kind of answer came, so that a test that asks for nothing is seen. */
    private final Map<String, Integer> kinds = new HashMap<>();
    private long seed = 20261115;
    private PegBoards real;
    private PlainBoards plain;
    private int run;
    private int calls;

    public static void main(String[] args) {
        ModelTest test = new ModelTest();
        for (int i = 1; i <= RUNS; i++) {
            test.oneRun(i);
        }
        test.everyKindOfAnswerCame();
        test.check.end();
    }

    private void oneRun(int number) {
        run = number;
        calls = 0;
        real = new PegBoards();
        plain = new PlainBoards();
        wildCalls(below(8));
        for (int board = 0; board < 3 && calls < CALLS - 200; board++) {
            if (number % 4 != 0 || board > 0) {
                call("clear", below(2), 0);
            }
            drawAndFreeze();
            questions(2 + below(4));
        }
        wildCalls(CALLS - calls);
    }

    private void drawAndFreeze() {
        int height = 1 + below(5);
        int width = 1 + below(5);
        int r0 = below(9 - height);
        int c0 = below(9 - width);
        int gaps = below(3);
        // Without corners at two ends a block is a triangle or hexagon of the triangular grid.
        int fewest = below(3) == 0 ? 1 + below(3) : 0;
        int most = below(3) == 0 ? height + width - 2 - fewest : height + width;
        for (int i = 0; i < height * width; i++) {
            int diagonal = i / width + i % width;
            if (diagonal >= fewest && diagonal <= most && (gaps == 0 || below(8) >= gaps)) {
                call("hole", r0 + i / width, c0 + i % width);
            }
        }
        wildCalls(below(3));
        call("freeze", 0, 0);
        call("symmetries", 0, 0);
    }

    private void questions(int puzzles) {
        for (int i = 0; i < puzzles; i++) {
            int start = position();
            int goal = below(4) == 0 ? position() : walk(start);
            call("place", 0, start);
            call("place", 1, goal);
            int limit = below(3) == 0 ? 1 + below(60) : 500;
            call("count", limit, 0);
            call("solve", limit, 0);
            call("moves", limit, 0);
            call("classes", limit, 0);
            for (int jump = 0; jump < 4; jump++) {
                call("way", limit, jump);
            }
            call("find", 0, 0);
            for (int what = 0; what < 11; what++) {
                call("weights", what, 0);
            }
            call("least", start, 0);
            call("parity", goal, 0);
            wildCalls(below(12));
        }
    }

    /** A position some jumps behind another one, so that many goals can be reached. */
    private int walk(int from) {
        int position = from;
        for (int tries = below(150); tries > 0; tries--) {
            try {
                int next = plain.after(position, below(60));
                position = next == -1 ? position : next;
            } catch (IndexOutOfBoundsException | IllegalArgumentException e) {
                continue;
            }
        }
        return position;
    }

    private void wildCalls(int number) {
        for (int i = 0; i < number && calls < CALLS; i++) {
            String name = NAMES[below(NAMES.length)];
            if (name.equals("clear") && below(10) != 0) {
                continue;
            }
            boolean usesPosition = name.equals("after") || name.equals("least")
                    || name.equals("parity");
            int a = usesPosition && below(8) != 0 ? position() : argument();
            int b = name.equals("place") && below(8) != 0 ? position() : argument();
            call(name, a, b);
        }
    }

    private int position() {
        int holes = 0;
        while (holes < 20 && isPosition(1 << holes)) {
            holes++;
        }
        return (below(1 << 20) | (below(3) == 0 ? below(1 << 20) : 0)) & (1 << holes) - 1;
    }

    private boolean isPosition(int position) {
        try {
            plain.parity(position);
            return true;
        } catch (IllegalArgumentException e) {
            return false;
        }
    }

    private int argument() {
        int kind = below(8);
        return kind == 0 ? EDGES[below(EDGES.length)] : kind < 5 ? below(8) : below(64);
    }

    private void call(String name, int a, int b) {
        if (calls >= CALLS) {
            return;
        }
        calls++;
        String want = Check.answer(() -> ofPlain(name, a, b));
        String got = Check.answer(() -> ofReal(name, a, b));
        check.same("run " + run + ", call " + calls + ": " + name + "(" + a + ", " + b + ")", want,
                got);
        kinds.merge(name + " " + (want.length() < 3 ? want : want.replaceAll("\\d+", "n")), 1,
                Integer::sum);
    }

    private void everyKindOfAnswerCame() {
        String[] due = {
            "hole throws.IllegalStateException", "hole throws.IllegalArgumentException", "hole 20",
            "freeze throws.IllegalStateException", "at -1", "at 5",
            "jump throws.IndexOutOfBoundsException", "jump 3", "after -1", "after n",
            "after throws.IndexOutOfBoundsException", "after throws.IllegalArgumentException",
            "count -2", "count 1", "count 40", "count n", "solve 0", "solve 1", "solve -2",
            "way -1", "way 0", "way 30", "moves 0", "moves 1", "moves 2", "moves 3", "moves 4",
            "moves 5", "moves -1", "moves -2", "classes 9", "classes -2", "symmetries 0",
            "symmetries 1", "symmetries 2", "symmetries 4", "symmetries 6", "symmetries 8",
            "symmetries 12", "image 4",
            "image throws.IndexOutOfBoundsException", "least n",
            "least throws.IllegalStateException", "least throws.IllegalArgumentException",
            "parity -1", "parity 15", "parity throws.IllegalArgumentException",
            "weight throws.IndexOutOfBoundsException", "weight throws.IllegalArgumentException",
            "weights 2", "weights throws.IndexOutOfBoundsException", "find 0", "find 1",
            "find throws.IllegalStateException",
        };
        for (String kind : due) {
            check.same("the answer '" + kind + "'", "came", kinds.containsKey(kind) ? "came" : "not");
        }
    }

    private long ofReal(String name, int a, int b) {
        switch (name) {
            case "clear": real.clear(a % 2 != 0); return 0;
            case "hole": return real.hole(a, b);
            case "freeze": return real.freeze();
            case "at": return real.at(a, b);
            case "jump": return real.jump(a, b);
            case "place": real.place(a % 2 != 0, b); return 0;
            case "after": return real.after(a, b);
            case "count": return real.count(a);
            case "solve": return real.solve(a);
            case "way": return real.way(a, b);
            case "moves": return real.moves(a);
            case "classes": return real.classes(a);
            case "symmetries": return real.symmetries();
            case "image": return real.image(a, b);
            case "least": return real.least(a);
            case "parity": return real.parity(a);
            case "weight": real.weight(a, b); return 0;
            case "weights": return real.weights(a);
            default: return real.find() ? 1 : 0;
        }
    }

    private long ofPlain(String name, int a, int b) {
        switch (name) {
            case "clear": plain.clear(a % 2 != 0); return 0;
            case "hole": return plain.hole(a, b);
            case "freeze": return plain.freeze();
            case "at": return plain.at(a, b);
            case "jump": return plain.jump(a, b);
            case "place": plain.place(a % 2 != 0, b); return 0;
            case "after": return plain.after(a, b);
            case "count": return plain.count(a);
            case "solve": return plain.solve(a);
            case "way": return plain.way(a, b);
            case "moves": return plain.moves(a);
            case "classes": return plain.classes(a);
            case "symmetries": return plain.symmetries();
            case "image": return plain.image(a, b);
            case "least": return plain.least(a);
            case "parity": return plain.parity(a);
            case "weight": plain.weight(a, b); return 0;
            case "weights": return plain.weights(a);
            default: return plain.find() ? 1 : 0;
        }
    }

    private int below(int bound) {
        seed = seed * 6364136223846793005L + 1442695040888963407L;
        return (int) ((seed >>> 33) % bound);
    }
}
