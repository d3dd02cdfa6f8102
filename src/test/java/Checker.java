/** Counts the answers that are not due; a test ends by end(). */
final class Checker {
    private final String test;
    private int looked;
    private int wrong;

    Checker(String itsTest) {
        test = itsTest;
    }

    void due(String what, long got, long want) {
        looked++;
        if (got != want) {
            wrong++;
            System.out.println(test + ": " + what + " answered " + got + ", due is " + want);
        }
    }

    void due(String what, boolean got, boolean want) {
        due(what, got ? 1 : 0, want ? 1 : 0);
    }

    interface Call {
        void make();
    }

    /** The call must throw exactly this exception. */
    void refused(String what, Class<? extends RuntimeException> want, Call call) {
        looked++;
        String got = "nothing";
        try {
            call.make();
        } catch (RuntimeException e) {
            got = e.getClass().getName();
        }
        if (!got.equals(want.getName())) {
            wrong++;
            System.out.println(test + ": " + what + " threw " + got + ", due is " + want.getName());
        }
    }

    void outOfBounds(String what, Call call) {
        refused(what, IndexOutOfBoundsException.class, call);
    }

    void illegalArgument(String what, Call call) {
        refused(what, IllegalArgumentException.class, call);
    }

    void illegalState(String what, Call call) {
        refused(what, IllegalStateException.class, call);
    }

    void end() {
        System.out.println(test + ": " + looked + " answers looked at, " + wrong + " wrong");
        if (wrong > 0) {
            System.exit(1);
        }
    }
}
