import java.util.function.Supplier;

/** Counts the calls whose answer is not the one that is due, and tells each. */
final class Checks {
    private String sentence = "";
    private boolean askedOfSentence = true;
    private int done;
    private int wrong;

    /** The answer of a call, or the name of the exception that it throws. */
    static String outcome(Supplier<Object> call) {
        try {
            return String.valueOf(call.get());
        } catch (RuntimeException thrown) {
            return thrown.getClass().getName();
        }
    }

    /** The words of the document that the answers are held against from here on. */
    void sentence(String words) {
        failUntested();
        sentence = "'" + words + "' ";
        askedOfSentence = false;
    }

    void answers(String what, Object want, Supplier<Object> call) {
        compare(what, String.valueOf(want), outcome(call));
    }

    void refuses(String what, Class<? extends RuntimeException> want, Supplier<Object> call) {
        compare(what, want.getName(), outcome(call));
    }

    void compare(String what, String want, String got) {
        done++;
        askedOfSentence = true;
        if (!want.equals(got)) {
            wrong++;
            System.out.println(sentence + what + ": " + got + ", due is " + want);
        }
    }

    /** Ends the program, with 1 when an answer was wrong or none was looked at. */
    void end() {
        failUntested();
        System.out.println(done + " answers, " + wrong + " not as due");
        System.exit(wrong == 0 && done > 0 ? 0 : 1);
    }

    private void failUntested() {
        if (!askedOfSentence) {
            wrong++;
            System.out.println(sentence + "has no answer held against it");
        }
    }
}
