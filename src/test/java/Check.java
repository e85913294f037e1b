import java.util.function.LongSupplier;
import java.util.function.Supplier;

/** Counts and prints the answers that are not as due. */
final class Check {
    /** Answers of calls that throw; far outside the ints that calls answer. */
    static final long ARGUMENT = 1L << 40;
    static final long STATE = 2L << 40;
    static final long ELEMENT = 3L << 40;
    static final long OTHER = 4L << 40;

    /** One cause may make thousands of answers wrong. */
    private static final int TOLD = 20;

    private final String name;
    private String about = "";
    private int looked = 0;
    private int wrong = 0;

    Check(String name) {
        this.name = name;
    }

    /** Names the sentence of the document that the answers from here on are due to. */
    void about(String where, String sentence) {
        about = where + " \"" + sentence + "\" ";
        Document.lookFor(where, sentence);
    }

    void due(String call, long want, long got) {
        due(() -> call, want, got);
    }

    /** The call's text is made only when it is told, since many long texts are not. */
    void due(Supplier<String> call, long want, long got) {
        looked++;
        if (got != want) {
            wrong++;
            tellOf(call.get(), want, got);
        }
    }

    private void tellOf(String call, long want, long got) {
        if (wrong <= TOLD) {
            System.out.println(name + ": " + about + call + " answered " + tell(got) + ", due is " + tell(want));
        }
    }

    void due(String call, long want, LongSupplier asked) {
        due(call, want, answer(asked));
    }

    void dueThrow(String call, long want, Runnable asked) {
        due(call, want, () -> {
            asked.run();
            return 0;
        });
    }

    static long answer(LongSupplier asked) {
        try {
            return asked.getAsLong();
        } catch (RuntimeException e) {
            return codeOf(e);
        }
    }

    private static long codeOf(RuntimeException e) {
        if (e.getClass() == IllegalArgumentException.class) {
            return ARGUMENT;
        }
        if (e.getClass() == IllegalStateException.class) {
            return STATE;
        }
        return e.getClass() == java.util.NoSuchElementException.class ? ELEMENT : OTHER;
    }

    private static String tell(long answer) {
        if (answer == ARGUMENT) {
            return "throws.IllegalArgumentException";
        }
        if (answer == STATE) {
            return "throws.IllegalStateException";
        }
        if (answer == ELEMENT) {
            return "throws.NoSuchElementException";
        }
        return answer == OTHER ? "throws something else" : Long.toString(answer);
    }

    void end() {
        System.out.println(name + ": " + looked + " answers, " + wrong + " not as due");
        if (wrong != 0) {
            System.exit(1);
        }
    }
}
