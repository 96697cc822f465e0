import java.util.NoSuchElementException;
import java.util.function.LongSupplier;

/** Compares answers with what is due, prints the wrong ones, and ends the test. */
final class Checks {
    static final String NO_SUCH = "NoSuchElementException";
    static final String ILLEGAL = "IllegalArgumentException";

    private int passed = 0;
    private int failed = 0;

    void due(String call, long got, long want) {
        due(call, Long.toString(got), Long.toString(want));
    }

    void due(String call, boolean got, boolean want) {
        due(call, Boolean.toString(got), Boolean.toString(want));
    }

    void due(String call, String got, String want) {
        if (got.equals(want)) {
            passed++;
        } else {
            failed++;
            System.out.println(call + " answered " + got + ", due is " + want);
        }
    }

    void dueThrow(String call, LongSupplier made, String want) {
        due(call, answerOf(made), want);
    }

    /** The answer as a text, or the name of what was thrown. */
    static String answerOf(LongSupplier made) {
        try {
            return Long.toString(made.getAsLong());
        } catch (NoSuchElementException e) {
            return e.getClass() == NoSuchElementException.class ? NO_SUCH : e.toString();
        } catch (IllegalArgumentException e) {
            return e.getClass() == IllegalArgumentException.class ? ILLEGAL : e.toString();
        } catch (RuntimeException e) {
            return e.toString();
        }
    }

    void end() {
        System.out.println(passed + " passed, " + failed + " failed");
        if (failed != 0) {
            System.exit(1);
        }
    }
}
