/** Counts and prints the answers that are not as due; each test ends with finish(). */
final class Expect {
    interface Call {
        long answer();
    }

    private static final long MORE_THAN_SHOWN = 40;

    private static long checked = 0;
    private static long wrong = 0;

    private Expect() {
    }

    static void same(String what, long got, long due) {
        checked++;
        if (got != due) {
            tell(what + " answered " + got + ", due is " + due);
        }
    }

    static void state(String what, Call call) {
        thrown(what, call, IllegalStateException.class);
    }

    static void argument(String what, Call call) {
        thrown(what, call, IllegalArgumentException.class);
    }

    private static void thrown(String what, Call call, Class<? extends RuntimeException> due) {
        checked++;
        try {
            long got = call.answer();
            tell(what + " answered " + got + ", due is " + due.getSimpleName());
        } catch (RuntimeException e) {
            if (e.getClass() != due) {
                tell(what + " threw " + e + ", due is " + due.getSimpleName());
            }
        }
    }

    static void tell(String text) {
        wrong++;
        if (wrong <= MORE_THAN_SHOWN) {
            System.out.println(text);
        }
    }

    static void finish() {
        System.out.println(checked + " answers looked at, " + wrong + " not as due");
        if (wrong > 0 || checked == 0) {
            System.exit(1);
        }
    }
}
