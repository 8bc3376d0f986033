import java.util.function.LongSupplier;

/** Compares answers with what is due and counts those that differ. */
final class Check {
    private int wrong = 0;

    void due(String call, long want, long got) {
        if (got != want) {
            miss(call, Long.toString(want), Long.toString(got));
        }
    }

    void dueShare(String call, double want, double got) {
        if (Double.doubleToLongBits(want) != Double.doubleToLongBits(got)) {
            miss(call, Double.toString(want), Double.toString(got));
        }
    }

    void dueText(String call, String want, String got) {
        if (!want.equals(got)) {
            miss(call, want, got);
        }
    }

    /** The call throws just this kind of exception, and the object's digest stays as it was. */
    void refuses(String call, Class<?> kind, BentGardens gardens, LongSupplier body) {
        long before = gardens.digest();
        dueText(call, kind.getSimpleName(), outcome(body));
        due(call + " leaves the digest", before, gardens.digest());
    }

    /** The answer as a text, or the simple name of the exception that is thrown. */
    static String outcome(LongSupplier body) {
        try {
            return Long.toString(body.getAsLong());
        } catch (RuntimeException thrown) {
            return thrown.getClass().getSimpleName();
        }
    }

    private void miss(String call, String want, String got) {
        wrong++;
        System.out.println(call + " answered " + got + ", due is " + want);
    }

    /** Ends the test: with exit code 1 if an answer was wrong. */
    void end() {
        if (wrong != 0) {
            System.out.println(wrong + " answers are not as due");
            System.exit(1);
        }
    }
}
