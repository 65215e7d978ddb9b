/** Counts and prints what is not as due; the tests of this project share it. */
final class Check {
    /** A call, so that what it throws can be looked at. */
    interface Call {
        long answer();
    }

    /** A call without an answer. */
    interface Act {
        void run();
    }

    static final String BOUNDS = "IndexOutOfBoundsException";
    static final String ARGUMENT = "IllegalArgumentException";
    static final String STATE = "IllegalStateException";

    private int wrong;
    private int looked;

    void due(String what, long got, long want) {
        looked++;
        if (got != want) {
            complain(what + " answered " + got + ", due is " + want);
        }
    }

    /** Exactly that exception, not one that extends it. */
    void throwsIt(String want, String what, Call call) {
        looked++;
        String got = thrown(call);
        if (!got.equals(want)) {
            complain(what + " threw " + got + ", due is " + want);
        }
    }

    void throwsIt(String want, String what, Act act) {
        throwsIt(want, what, asCall(act));
    }

    static Call asCall(Act act) {
        return () -> {
            act.run();
            return 0;
        };
    }

    static String thrown(Call call) {
        try {
            return "nothing but answered " + call.answer();
        } catch (RuntimeException | Error e) {
            return e.getClass().getSimpleName();
        }
    }

    void complain(String text) {
        wrong++;
        if (wrong <= 50) {
            System.out.println("WRONG: " + text);
        }
    }

    boolean isFine() {
        return wrong == 0;
    }

    void end(String name) {
        System.out.println(name + ": " + looked + " looked at, " + wrong + " wrong");
        if (wrong != 0 || looked == 0) {
            System.exit(1);
        }
    }
}
