/** Counts the answers that are not as due, tells them, and ends the test with exit code 1 if there were any. */
final class Check {
    interface Call {
        Object make();
    }

    private int looked = 0;
    private int wrong = 0;

    void due(String call, Object got, Object want) {
        looked++;
        if (!got.toString().equals(want.toString())) {
            wrong++;
            System.out.println(call + " answered " + got + ", due is " + want);
        }
    }

    void index(String call, Call made) {
        due(call, outcome(made), "throws.IndexOutOfBoundsException");
    }

    void argument(String call, Call made) {
        due(call, outcome(made), "throws.IllegalArgumentException");
    }

    /** The answer as a text; an exception by its very class, so that one of the machine's own is told apart. */
    static String outcome(Call made) {
        try {
            return String.valueOf(made.make());
        } catch (RuntimeException e) {
            return "throws." + e.getClass().getSimpleName();
        }
    }

    int wrong() {
        return wrong;
    }

    void end() {
        System.out.println(looked + " answers, " + wrong + " not as due");
        if (wrong != 0 || looked == 0) {
            System.exit(1);
        }
    }
}
