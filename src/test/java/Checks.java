import java.util.function.LongSupplier;

/** Counts the answers that are not as due and prints each. */
final class Checks {
    private int wrong = 0;
    private String sentence = "";

    /** The sentence of the document that the next answers are about. */
    void about(String words) {
        sentence = words;
    }

    void due(String call, long got, long want) {
        if (got != want) {
            tell(call + " answered " + got + ", due is " + want);
        }
    }

    void isTrue(String what, boolean holds) {
        if (!holds) {
            tell("does not hold: " + what);
        }
    }

    /** The call throws an exception of just this class. */
    void isThrown(String call, Class<? extends RuntimeException> want, LongSupplier made) {
        String got;
        try {
            got = "" + made.getAsLong();
        } catch (RuntimeException e) {
            if (e.getClass() == want) {
                return;
            }
            got = e.getClass().getName();
        }
        tell(call + " answered " + got + ", due is " + want.getName());
    }

    private void tell(String fault) {
        wrong++;
        System.out.println(sentence.isEmpty() ? fault : fault + " [" + sentence + "]");
    }

    int wrong() {
        return wrong;
    }

    void end() {
        System.out.println(wrong == 0 ? "all answers are as due" : wrong + " answers are not as due");
        if (wrong != 0) {
            System.exit(1);
        }
    }
}
