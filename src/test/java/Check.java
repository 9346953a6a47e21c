import java.util.function.LongSupplier;

/** Compares answers with those that are due, and ends a test with exit code 1 if one was wrong. */
final class Check {
    static final String STATE = "throws.IllegalStateException";
    static final String ARGUMENT = "throws.IllegalArgumentException";
    static final String INDEX = "throws.IndexOutOfBoundsException";
    static final String DONE = "done";

    private int checks;
    private int wrong;
    private String sentence = "";
    private int checksBefore;

    /** What comes from here on is the test of this sentence of the document. */
    void sentence(String words) {
        sentenceWasTested();
        sentence = words;
        checksBefore = checks;
    }

    private void sentenceWasTested() {
        if (!sentence.isEmpty() && checks == checksBefore) {
            wrong++;
            System.out.println("'" + sentence + "' has no test");
        }
    }

    static String answer(LongSupplier call) {
        try {
            return Long.toString(call.getAsLong());
        } catch (RuntimeException e) {
            // The class itself, so that an ArrayIndexOutOfBoundsException is not taken as due.
            return "throws." + e.getClass().getSimpleName();
        }
    }

    static String outcome(Runnable call) {
        try {
            call.run();
            return DONE;
        } catch (RuntimeException e) {
            return "throws." + e.getClass().getSimpleName();
        }
    }

    void due(String call, long want, LongSupplier got) {
        same(call, Long.toString(want), answer(got));
    }

    void thrown(String call, String want, LongSupplier got) {
        same(call, want, answer(got));
    }

    void does(String call, String want, Runnable got) {
        same(call, want, outcome(got));
    }

    void same(String call, String want, String got) {
        checks++;
        if (!want.equals(got)) {
            wrong++;
            String of = sentence.isEmpty() ? "" : "'" + sentence + "': ";
            System.out.println(of + call + " answered " + got + ", due is " + want);
        }
    }

    void end() {
        sentenceWasTested();
        System.out.println(checks + " answers, " + wrong + " of them not as due");
        if (wrong != 0) {
            System.exit(1);
        }
    }
}
