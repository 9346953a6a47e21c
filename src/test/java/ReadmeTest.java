import java.io.IOException;
import java.nio.file.Files;
import java.nio.file.Path;
import java.util.List;
import java.util.function.LongSupplier;
import java.util.stream.Collectors;

/** The example of README.md: each of its lines with an answer, in its order, and the answer. */
public final class ReadmeTest {
    private static final Check CHECK = new Check();
    private static List<String> lines;

    public static void main(String[] args) throws IOException {
        lines = Files.readAllLines(Path.of("README.md")).stream()
                .filter(line -> line.startsWith("x.")).collect(Collectors.toList());
        PegBoards x = new PegBoards();
        line(x);
        anotherGoal(x);
        triangle(x);
        CHECK.same("lines of the example without a test", "[]", lines.toString());
        CHECK.end();
    }

    private static void line(PegBoards x) {
        for (int c = 1; c <= 4; c++) {
            x.hole(2, c);
        }
        says("x.freeze();", "4 jumps", 4, x::freeze);
        does("x.place(false, 0b1011);", () -> x.place(false, 0b1011));
        does("x.place(true, 0b0010);", () -> x.place(true, 0b0010));
        says("x.count(500);", "3 ", 3, () -> x.count(500));
        says("x.solve(500);", "1:", 1, () -> x.solve(500));
        says("x.way(500, 0);", "0:", 0, () -> x.way(500, 0));
        says("x.way(500, 1);", "3:", 3, () -> x.way(500, 1));
        says("x.way(500, 2);", "-1, NONE", PegBoards.NONE, () -> x.way(500, 2));
        says("x.moves(500);", "2,", 2, () -> x.moves(500));
        says("x.count(2);", "-2, LIMIT", PegBoards.LIMIT, () -> x.count(2));
        says("x.parity(0b1011);", "14,", 14, () -> x.parity(0b1011));
        says("x.find();", "false", 0, () -> x.find() ? 1 : 0);
    }

    private static void anotherGoal(PegBoards x) {
        does("x.place(true, 0b0101);", () -> x.place(true, 0b0101));
        says("x.parity(0b0101);", "14:", 14, () -> x.parity(0b0101));
        says("x.solve(500);", "0:", 0, () -> x.solve(500));
        says("x.find();", "true", 1, () -> x.find() ? 1 : 0);
        says("x.weights(1);", "1,", 1, () -> x.weights(1));
        says("x.weights(2);", "2,", 2, () -> x.weights(2));
        says("x.weights(3);", "1,", 1, () -> x.weights(3));
    }

    private static void triangle(PegBoards x) {
        does("x.clear(true);", () -> x.clear(true));
        for (int r = 0; r < 4; r++) {
            for (int c = 3 - r; c <= 3; c++) {
                x.hole(r, c);
            }
        }
        says("x.freeze();", "18 jumps", 18, x::freeze);
        says("x.symmetries();", "6", 6, x::symmetries);
        says("x.image(1, 0);", "9:", 9, () -> x.image(1, 0));
        does("x.place(false, 1023 - 2);", () -> x.place(false, 1023 - 2));
        does("x.place(true, 4);", () -> x.place(true, 4));
        says("x.count(500);", "62 ", 62, () -> x.count(500));
        says("x.classes(500);", "48,", 48, () -> x.classes(500));
        says("x.moves(500);", "5,", 5, () -> x.moves(500));
    }

    private static void says(String call, String comment, long want, LongSupplier got) {
        isNext(call, comment);
        CHECK.due(call, want, got);
    }

    private static void does(String call, Runnable got) {
        isNext(call, "");
        CHECK.does(call, Check.DONE, got);
    }

    private static void isNext(String call, String comment) {
        String line = lines.isEmpty() ? "" : lines.remove(0);
        CHECK.same("the next line, " + line, "so",
                line.matches("\\Q" + call + "\\E\\s+// \\Q" + comment + "\\E.*") ? "so" : "not so");
    }
}
