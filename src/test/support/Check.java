/** Counts the answers that are not as due, tells them, and ends the test with exit code 1 if there were any. */
final class Check {
    static final String INDEX = "throws.IndexOutOfBoundsException";
    static final String ARGUMENT = "throws.IllegalArgumentException";

    interface Call {
        Object make();
    }

    private int looked = 0;
    private int wrong = 0;
    private String sentence = "";

    /** What is looked at from here on is asked for by this sentence of the document. */
    void sentence(String words) {
        sentence = words + ": ";
    }

    void due(String call, Object got, Object want) {
        looked++;
        if (!got.toString().equals(want.toString())) {
            wrong++;
            System.out.println(sentence + call + " answered " + got + ", due is " + want);
        }
    }

    void index(String call, Call made) {
        due(call, outcome(made), INDEX);
    }

    void argument(String call, Call made) {
        due(call, outcome(made), ARGUMENT);
    }

    /** The answer as a text; an exception by its very class, so that one of the machine's own is told apart. */
    static String outcome(Call made) {
        try {
            return String.valueOf(made.make());
        } catch (RuntimeException e) {
            return "throws." + e.getClass().getSimpleName();
        }
    }

    int wrong() {
        return wrong;
    }

    void end() {
        System.out.println(looked + " answers, " + wrong + " not as due");
        if (wrong != 0 || looked == 0) {
            System.exit(1);
        }
    }
}
