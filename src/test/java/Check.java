import java.util.function.IntSupplier;

/** Counts the answers that are not as due, and prints each of them. */
final class Check {
    private final String test;
    private int wrong = 0;
    private int asked = 0;

    Check(String test) {
        this.test = test;
    }

    void due(String call, int got, int want) {
        asked++;
        if (got != want) {
            tell(call + " answered " + got + ", due is " + want);
        }
    }

    /** The class thrown must be the very one: what the machine throws is often a class below it. */
    void dueThrow(String call, Class<? extends RuntimeException> want, IntSupplier asks) {
        asked++;
        try {
            tell(call + " answered " + asks.getAsInt() + ", due is a " + want.getSimpleName());
        } catch (RuntimeException thrown) {
            if (thrown.getClass() != want) {
                tell(call + " threw " + thrown + ", due is a " + want.getSimpleName());
            }
        }
    }

    void dueTrue(String what, boolean holds) {
        asked++;
        if (!holds) {
            tell(what + " does not hold");
        }
    }

    boolean isClean() {
        return wrong == 0;
    }

    void end() {
        System.out.println(test + ": " + asked + " answers, " + wrong + " not as due");
        if (wrong != 0) {
            System.exit(1);
        }
    }

    private void tell(String line) {
        wrong++;
        System.out.println(test + ": " + line);
    }
}
