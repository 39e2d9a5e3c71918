import java.util.Objects;

/** Counts what is right and wrong; a test ends with finish(). */
final class Check {
    /** A call of the face. */
    interface Call {
        Object answer();
    }

    private static int right = 0;
    private static int wrong = 0;

    private Check() {
    }

    static void same(String what, Object got, Object want) {
        if (Objects.equals(got, want)) {
            right++;
            return;
        }
        wrong++;
        System.out.println(what + " answered " + got + ", due is " + want);
    }

    /** The call throws just that exception, and the object is as it was. */
    static void refuses(String what, Modrings x, Class<? extends RuntimeException> due, Call call) {
        long before = x.digest();
        Object thrown = "nothing thrown";
        try {
            call.answer();
        } catch (RuntimeException e) {
            thrown = e.getClass();
        }
        same(what + " throws", thrown, due);
        same(what + " changes nothing", x.digest(), before);
    }

    static void noIndex(String what, Modrings x, Call call) {
        refuses(what, x, IndexOutOfBoundsException.class, call);
    }

    static void noArgument(String what, Modrings x, Call call) {
        refuses(what, x, IllegalArgumentException.class, call);
    }

    static void finish(String name) {
        System.out.println(name + ": " + right + " right, " + wrong + " wrong");
        if (wrong != 0 || right == 0) {
            System.exit(1);
        }
    }
}
