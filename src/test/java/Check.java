import java.lang.reflect.InvocationTargetException;
import java.lang.reflect.Method;
import java.lang.reflect.Modifier;
import java.util.Arrays;
import java.util.Comparator;
import java.util.Objects;

/**
 * Counts what is right and wrong; a test ends with finish(), or leaves all to run().
 * One check of a whole state is up to 30 calls, and an object has 512: take a new one in time.
 */
final class Check {
    /** A call of the face. */
    interface Call {
        Object answer();
    }

    private static int right = 0;
    private static int wrong = 0;

    private Check() {
    }

    static void same(String what, Object got, Object want) {
        if (Objects.equals(got, want)) {
            right++;
            return;
        }
        wrong++;
        System.out.println(what + " answered " + got + ", due is " + want);
    }

    static void isInt(String what, Modrings x, int k, int want) {
        same(what + ": INT " + k, x.text(false, k), Integer.toString(want));
    }

    static void isLong(String what, Modrings x, int k, long want) {
        same(what + ": LONG " + k, x.text(true, k), Long.toString(want));
    }

    private static void stands(String what, Modrings x, String[] due) {
        same(what + ", the state then", Arrays.toString(Made.state(x)), Arrays.toString(due));
    }

    /** The call answers that and changes nothing, not even what is counted. */
    static void asks(String what, Modrings x, Object want, Call call) {
        String[] due = Made.state(x);
        same(what, call.answer(), want);
        stands(what, x, due);
    }

    /** The number becomes that one, the call answers this, and nothing else changes. */
    static void puts(String what, Modrings x, boolean isLong, int k, long want, Object answer, Call call) {
        String[] due = Made.state(x);
        due[Made.numberPlace(isLong, k)] = Long.toString(want);
        same(what, call.answer(), answer);
        stands(what, x, due);
    }

    /** As puts(), for a call that answers the SIGN of what the number is then. */
    static void becomes(String what, Modrings x, boolean isLong, int k, long want, Call call) {
        puts(what, x, isLong, k, want, Long.signum(want), call);
    }

    /** The RING becomes what this text tells, the call answers that, and nothing else changes. */
    static void turns(String what, Modrings x, int ring, String want, Object answer, Call call) {
        String[] due = Made.state(x);
        due[Made.ringPlace(ring)] = want;
        same(what, call.answer(), answer);
        stands(what, x, due);
    }

    /** The call is REFUSED: one more of these is counted, and nothing else changes. */
    static void refused(String what, Modrings x, Call call) {
        String[] due = Made.state(x);
        due[Made.REFUSALS] = Integer.toString(x.house(0) + 1);
        same(what, call.answer(), -9);
        stands(what, x, due);
    }

    /** The call throws just that exception (none of its kinds), and nothing changes. */
    private static void throwing(String what, Modrings x, Class<? extends RuntimeException> due, Call call) {
        String[] before = Made.state(x);
        Object thrown = "nothing thrown";
        try {
            call.answer();
        } catch (RuntimeException e) {
            thrown = e.getClass();
        }
        same(what + " throws", thrown, due);
        stands(what, x, before);
    }

    static void noIndex(String what, Modrings x, Call call) {
        throwing(what, x, IndexOutOfBoundsException.class, call);
    }

    static void noArgument(String what, Modrings x, Call call) {
        throwing(what, x, IllegalArgumentException.class, call);
    }

    static void throwsNothing(String what, Call call) {
        Object thrown = "nothing thrown";
        try {
            call.answer();
        } catch (RuntimeException e) {
            thrown = e.getClass();
        }
        same(what, thrown, "nothing thrown");
    }

    /** Runs each static method of the class that has no parameters and answers nothing: a test each. */
    static void run(Class<?> tests) {
        Method[] methods = tests.getDeclaredMethods();
        Arrays.sort(methods, Comparator.comparing(Method::getName));
        int count = 0;
        for (Method method : methods) {
            if (!Modifier.isStatic(method.getModifiers()) || method.getParameterCount() != 0
                    || method.getReturnType() != void.class) {
                continue;
            }
            count++;
            int wrongBefore = wrong;
            runOne(method);
            if (wrong != wrongBefore) {
                System.out.println("  in " + tests.getName() + "." + method.getName());
            }
        }
        System.out.println(tests.getName() + " has " + count + " tests");
        finish(tests.getName());
    }

    private static void runOne(Method method) {
        try {
            method.setAccessible(true);
            method.invoke(null);
        } catch (InvocationTargetException e) {
            wrong++;
            System.out.println(method.getName() + " was broken off by " + e.getCause());
        } catch (IllegalAccessException e) {
            wrong++;
            System.out.println(method.getName() + " can't be called");
        }
    }

    static void finish(String name) {
        System.out.println(name + ": " + right + " right, " + wrong + " wrong");
        if (wrong != 0 || right == 0) {
            System.exit(1);
        }
    }
}
