/** Counts the answers that are not as due and prints each; every test of the project uses it. */
final class Due {
    /** A call of the face, so that a test can say what it must throw. */
    interface Call {
        void run();
    }

    static final Class<?> BAD_INDEX = IndexOutOfBoundsException.class;
    static final Class<?> BAD_ARGUMENT = IllegalArgumentException.class;
    static final Class<?> BAD_STATE = IllegalStateException.class;

    private static final int MOST_PRINTED = 40;

    private final String test;
    private int wrong = 0;
    private int looked = 0;

    Due(String test) {
        this.test = test;
    }

    void same(String call, long got, long want) {
        is(call + " answered " + got + ", due is " + want, got == want);
    }

    void sameReal(String call, double got, double want) {
        is(call + " answered " + got + ", due is " + want, Double.compare(got, want) == 0);
    }

    void sameText(String call, String got, String want) {
        is(call + " answered " + got + ", due is " + want, got.equals(want));
    }

    /** The very class is asked for: a subclass would be the machine's own exception. */
    void thrown(String call, Class<?> want, Call made) {
        String got = "nothing";
        try {
            made.run();
        } catch (RuntimeException thrown) {
            got = thrown.getClass().getName();
        }
        is(call + " threw " + got + ", due is " + want.getName(), got.equals(want.getName()));
    }

    /** The call throws what it must, and changes nothing. */
    void refused(GhostPantry pantry, String call, Class<?> want, Call made) {
        long before = pantry.digest();
        thrown(call, want, made);
        same("digest after refused " + call, pantry.digest(), before);
    }

    void is(String what, boolean holds) {
        looked++;
        if (holds) {
            return;
        }
        wrong++;
        if (wrong <= MOST_PRINTED) {
            System.out.println(test + ": wrong: " + what);
        }
    }

    void close() {
        System.out.println(test + ": " + looked + " answers looked at, " + wrong + " not as due");
        if (wrong != 0 || looked == 0) {
            System.exit(1);
        }
    }
}
