/** Counts the answers that are not as due, and ends the test with exit code 1 if there was one. */
final class Check {
    interface Call {
        Object answer();
    }

    private int checked;
    private int wrong;

    void due(String what, Object want, Call call) {
        Object got = answerOf(call);
        checked++;
        if (!want.equals(got)) {
            wrong++;
            System.out.println(what + " answered " + got + ", due is " + want);
        }
    }

    void illegalArgument(String what, Call call) {
        due(what, "throws.IllegalArgumentException", call);
    }

    void illegalState(String what, Call call) {
        due(what, "throws.IllegalStateException", call);
    }

    void noSuchElement(String what, Call call) {
        due(what, "throws.NoSuchElementException", call);
    }

    /** The answer, or "throws." and the exception's name. */
    static Object answerOf(Call call) {
        try {
            return call.answer();
        } catch (RuntimeException e) {
            return "throws." + e.getClass().getSimpleName();
        }
    }

    void end() {
        System.out.println(wrong + " of " + checked + " answers are not as due");
        if (wrong > 0) {
            System.exit(1);
        }
    }
}
