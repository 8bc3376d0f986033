import java.util.function.LongSupplier;

/** Compares answers with what is due and counts those that differ. */
final class Check {
    private int wrong = 0;
    private String caseName = "";

    /** What is compared from now on belongs to this case. */
    void begin(String name) {
        caseName = name + ": ";
    }

    void due(String call, long want, long got) {
        if (got != want) {
            miss(call, Long.toString(want), Long.toString(got));
        }
    }

    void dueShare(String call, double want, double got) {
        if (Double.doubleToLongBits(want) != Double.doubleToLongBits(got)) {
            miss(call, Double.toString(want), Double.toString(got));
        }
    }

    void dueText(String call, String want, String got) {
        if (!want.equals(got)) {
            miss(call, want, got);
        }
    }

    /** The call throws just this kind of exception, and all that can be looked at stays as it was. */
    void refuses(String call, Class<?> kind, BentGardens gardens, LongSupplier body) {
        String before = Told.all(gardens);
        dueText(call, kind.getSimpleName(), outcome(body));
        dueText(call + " changes nothing", before, Told.all(gardens));
    }

    /** The answer as a text, or the simple name of the exception that is thrown. */
    static String outcome(LongSupplier body) {
        try {
            return Long.toString(body.getAsLong());
        } catch (RuntimeException thrown) {
            return thrown.getClass().getSimpleName();
        }
    }

    private void miss(String call, String want, String got) {
        wrong++;
        System.out.println(caseName + call + " answered " + got + ", due is " + want);
    }

    /** Ends the test: with exit code 1 if an answer was wrong. */
    void end() {
        if (wrong != 0) {
            System.out.println(wrong + " answers are not as due");
            System.exit(1);
        }
    }
}
