import java.util.NoSuchElementException;

/** Counts what is not as due; a test makes one, checks, and ends with finish(). */
final class Checks {
    interface Call {
        int answer();
    }

    private final String name;
    private int done = 0;
    private int wrong = 0;

    Checks(String name) {
        this.name = name;
    }

    /** An answer as a text: the number, or the name of what was thrown. */
    static String answerOf(Call call) {
        try {
            return Integer.toString(call.answer());
        } catch (NoSuchElementException e) {
            return "NoSuchElement";
        } catch (IllegalArgumentException e) {
            return "IllegalArgument";
        } catch (RuntimeException e) {
            return e.toString();
        }
    }

    void due(String what, int want, Call call) {
        dueText(what, Integer.toString(want), answerOf(call));
    }

    void missing(String what, Call call) {
        dueText(what, "NoSuchElement", answerOf(call));
    }

    void illegal(String what, Call call) {
        dueText(what, "IllegalArgument", answerOf(call));
    }

    void dueText(String what, String want, String got) {
        done++;
        if (!want.equals(got)) {
            wrong++;
            if (wrong <= 40) {
                System.out.println(name + ": " + what + " answered " + got + ", due is " + want);
            }
        }
    }

    boolean fine() {
        return wrong == 0;
    }

    void finish() {
        System.out.println(name + ": " + done + " checks, " + wrong + " wrong");
        if (wrong != 0) {
            System.exit(1);
        }
    }
}
