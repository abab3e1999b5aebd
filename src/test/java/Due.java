/** Counts the answers that are not as due and prints each; every test of the project uses it. */
final class Due {
    /** A call of the face, so that a test can say what it must throw. */
    interface Call {
        void run();
    }

    private final String test;
    private int wrong = 0;
    private int looked = 0;

    Due(String test) {
        this.test = test;
    }

    void same(String call, long got, long want) {
        looked++;
        if (got != want) {
            tell(call + " answered " + got + ", due is " + want);
        }
    }

    void sameReal(String call, double got, double want) {
        looked++;
        if (Double.compare(got, want) != 0) {
            tell(call + " answered " + got + ", due is " + want);
        }
    }

    void is(String what, boolean holds) {
        looked++;
        if (!holds) {
            tell(what + " does not hold");
        }
    }

    /** The very class is asked for: a subclass would be the machine's own exception. */
    void thrown(String call, Class<?> want, Call made) {
        looked++;
        try {
            made.run();
        } catch (RuntimeException got) {
            if (got.getClass() != want) {
                tell(call + " threw " + got.getClass().getName() + ", due is " + want.getName());
            }
            return;
        }
        tell(call + " threw nothing, due is " + want.getName());
    }

    private void tell(String text) {
        wrong++;
        if (wrong <= 40) {
            System.out.println(test + ": " + text);
        }
    }

    void close() {
        System.out.println(test + ": " + looked + " answers looked at, " + wrong + " not as due");
        if (wrong != 0 || looked == 0) {
            System.exit(1);
        }
    }
}
