/** All that an object answers, as one text, to see whether two objects are in the same state. */
final class Telling {
    private final PegBoards x;
    private final StringBuilder text = new StringBuilder();

    private Telling(PegBoards x) {
        this.x = x;
    }

    /**
     * Asks every question; a board that is not frozen is then drawn on at a free place and frozen,
     * since only that shows what was drawn. The object is in another state then.
     */
    static String of(PegBoards x, int freeRow, int freeColumn) {
        Telling telling = new Telling(x);
        boolean frozen = x.symmetries() > 0;
        telling.all();
        if (!frozen) {
            telling.tell("hole", Check.answer(() -> x.hole(freeRow, freeColumn)));
            telling.tell("freeze", Check.answer(x::freeze));
            telling.all();
        }
        return telling.text.toString();
    }

    /** The first line that is not as in the telling due; empty when they are alike. */
    static String difference(String due, String told) {
        String[] dueLines = due.split("\n");
        String[] toldLines = told.split("\n");
        for (int i = 0; i < Math.min(dueLines.length, toldLines.length); i++) {
            if (!dueLines[i].equals(toldLines[i])) {
                return toldLines[i] + " in place of " + dueLines[i];
            }
        }
        return dueLines.length == toldLines.length ? "" : "other questions";
    }

    private void tell(String call, String answer) {
        text.append(call).append(' ').append(answer).append('\n');
    }

    private void all() {
        places();
        jumps();
        symmetries();
        positions();
        weights();
        reaching();
    }

    private void places() {
        for (int place = 0; place < 64; place++) {
            int each = place;
            String number = Check.answer(() -> x.at(each / 8, each % 8));
            if (!number.equals("-1")) {
                tell("at " + place / 8 + " " + place % 8, number);
            }
        }
    }

    private void jumps() {
        String last = "";
        for (int k = 0; k < 121 && !last.equals(Check.INDEX); k++) {
            int each = k;
            last = Check.answer(
                    () -> 10000 * x.jump(each, 0) + 100 * x.jump(each, 1) + x.jump(each, 2));
            tell("jump " + k, last);
        }
    }

    private void symmetries() {
        tell("symmetries", Check.answer(x::symmetries));
        for (int k = 0; k < 13; k++) {
            int each = k;
            tell("image " + k, Check.answer(() -> x.image(each, 0)));
        }
    }

    private void positions() {
        for (int position : new int[] {0, 1, 6, 1 << 19}) {
            tell("least " + position, Check.answer(() -> x.least(position)));
            tell("parity " + position, Check.answer(() -> x.parity(position)));
            tell("after " + position, Check.answer(() -> x.after(position, 0)));
        }
    }

    private void weights() {
        for (int what = 0; what < 24; what++) {
            int each = what;
            tell("weights " + what, Check.answer(() -> x.weights(each)));
        }
    }

    private void reaching() {
        for (int limit : new int[] {2, 500}) {
            tell("count " + limit, Check.answer(() -> x.count(limit)));
            tell("solve " + limit, Check.answer(() -> x.solve(limit)));
            tell("moves " + limit, Check.answer(() -> x.moves(limit)));
            tell("classes " + limit, Check.answer(() -> x.classes(limit)));
            tell("way " + limit, Check.answer(() -> x.way(limit, 0)));
        }
    }
}
