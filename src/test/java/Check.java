import java.util.function.LongSupplier;

/** Counts and prints the answers that are not as due. */
final class Check {
    /** Answers of calls that throw; far outside the ints that calls answer. */
    static final long ARGUMENT = 1L << 40;
    static final long STATE = 2L << 40;
    static final long ELEMENT = 3L << 40;
    static final long OTHER = 4L << 40;

    private final String name;
    private int looked = 0;
    private int wrong = 0;

    Check(String name) {
        this.name = name;
    }

    void due(String call, long want, long got) {
        looked++;
        if (got != want) {
            wrong++;
            System.out.println(name + ": " + call + " answered " + tell(got) + ", due is " + tell(want));
        }
    }

    void due(String call, long want, LongSupplier asked) {
        due(call, want, answer(asked));
    }

    void dueThrow(String call, long want, Runnable asked) {
        due(call, want, () -> {
            asked.run();
            return 0;
        });
    }

    static long answer(LongSupplier asked) {
        try {
            return asked.getAsLong();
        } catch (RuntimeException e) {
            return codeOf(e);
        }
    }

    private static long codeOf(RuntimeException e) {
        if (e.getClass() == IllegalArgumentException.class) {
            return ARGUMENT;
        }
        if (e.getClass() == IllegalStateException.class) {
            return STATE;
        }
        return e.getClass() == java.util.NoSuchElementException.class ? ELEMENT : OTHER;
    }

    private static String tell(long answer) {
        if (answer == ARGUMENT) {
            return "throws.IllegalArgumentException";
        }
        if (answer == STATE) {
            return "throws.IllegalStateException";
        }
        if (answer == ELEMENT) {
            return "throws.NoSuchElementException";
        }
        return answer == OTHER ? "throws something else" : Long.toString(answer);
    }

    void end() {
        System.out.println(name + ": " + looked + " answers, " + wrong + " not as due");
        if (wrong != 0) {
            System.exit(1);
        }
    }
}
