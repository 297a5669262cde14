import java.lang.reflect.InvocationTargetException;
import java.lang.reflect.Method;
import java.lang.reflect.Modifier;
import java.util.Arrays;
import java.util.Comparator;

/** Counts the answers that are not as due, and ends the test with exit code 1 if there was one. */
final class Check {
    interface Call {
        Object answer();
    }

    interface CallWith {
        Object answer(int number);
    }

    private String sentence = "";
    private int checked;
    private int wrong;

    /** Runs the tests of a class: its methods without parameters that are static and not private. */
    void runAll(Class<?> tests) {
        Method[] methods = tests.getDeclaredMethods();
        Arrays.sort(methods, Comparator.comparing(Method::getName));
        for (Method m : methods) {
            if (isTest(m)) {
                run(m);
            }
        }
        end();
    }

    private static boolean isTest(Method m) {
        return m.getParameterCount() == 0 && Modifier.isStatic(m.getModifiers())
                && !Modifier.isPrivate(m.getModifiers()) && !m.isSynthetic();
    }

    private void run(Method test) {
        sentence = "";
        int before = checked;
        try {
            test.invoke(null);
        } catch (IllegalAccessException | InvocationTargetException e) {
            fail(test.getName() + " ended with " + (e.getCause() == null ? e : e.getCause()));
        }
        if (checked == before) {
            fail(test.getName() + " checked nothing");
        }
    }

    private void fail(String text) {
        wrong++;
        System.out.println(text);
    }

    /** What is checked from here on holds this sentence of the document. */
    void sentence(String section, String words) {
        sentence = section + ", \"" + words + "\"\n  ";
    }

    void due(String what, Object want, Call call) {
        Object got = answerOf(call);
        checked++;
        if (!want.equals(got)) {
            fail(sentence + what + " answered " + got + ", due is " + want);
        }
    }

    void illegalArgument(String what, Call call) {
        due(what, "throws.IllegalArgumentException", call);
    }

    void illegalArguments(String what, int[] numbers, CallWith call) {
        for (int number : numbers) {
            illegalArgument(what + " " + number, () -> call.answer(number));
        }
    }

    void illegalState(String what, Call call) {
        due(what, "throws.IllegalStateException", call);
    }

    void noSuchElement(String what, Call call) {
        due(what, "throws.NoSuchElementException", call);
    }

    /** The requirements that courses 0, 1, .. are given. */
    void assignment(String what, StudyAudit x, int... due) {
        for (int c = 0; c < due.length; c++) {
            int course = c;
            due(what + ": assigned(" + c + ")", due[c], () -> x.assigned(course));
        }
    }

    /** How many courses within groups 0, 1, .. are given requirements. */
    void used(String what, StudyAudit x, int... due) {
        for (int g = 0; g < due.length; g++) {
            int group = g;
            due(what + ": used(" + g + ")", due[g], () -> x.used(group));
        }
    }

    /** What the receipt tells for 0, 1, .. */
    void receipt(String what, StudyAudit x, int... due) {
        for (int w = 0; w < due.length; w++) {
            int number = w;
            due(what + ": receipt(" + w + ")", due[w], () -> x.receipt(number));
        }
    }

    /** The answer, or "throws." and the exception's name. */
    static Object answerOf(Call call) {
        try {
            return call.answer();
        } catch (RuntimeException e) {
            return "throws." + e.getClass().getSimpleName();
        }
    }

    void end() {
        System.out.println(wrong + " of " + checked + " answers are not as due");
        if (wrong > 0) {
            System.exit(1);
        }
    }
}
