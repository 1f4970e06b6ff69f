/** Counts and prints the answers that are not as due; each test ends with finish(). */
final class Expect {
    interface Call {
        long answer();
    }

    private static final long MORE_THAN_SHOWN = 40;

    private static long checked = 0;
    private static long wrong = 0;
    private static long sentences = 0;
    private static String sentence = "";

    private Expect() {
    }

    /** The test of one sentence of the document, whose words stand before each answer that is not as due. */
    static void sentence(String words, Runnable test) {
        long before = checked;
        sentences++;
        sentence = "[" + words + "] ";
        try {
            test.run();
        } catch (RuntimeException e) {
            tell("a call threw " + e + " at " + callOf(e));
        }
        if (checked == before) {
            tell("nothing was looked at");
        }
        sentence = "";
    }

    private static String callOf(RuntimeException e) {
        for (StackTraceElement at : e.getStackTrace()) {
            if (at.getClassName().endsWith("Test")) {
                return at.toString();
            }
        }
        return "an unknown place";
    }

    static void same(String what, long got, long due) {
        checked++;
        if (got != due) {
            tell(what + " answered " + got + ", due is " + due);
        }
    }

    static void text(String what, String got, String due) {
        checked++;
        if (!got.equals(due)) {
            tell(what + ": seen is " + got + ", due is " + due);
        }
    }

    static void state(String what, Call call) {
        thrown(what, call, IllegalStateException.class);
    }

    static void argument(String what, Call call) {
        thrown(what, call, IllegalArgumentException.class);
    }

    private static void thrown(String what, Call call, Class<? extends RuntimeException> due) {
        checked++;
        try {
            long got = call.answer();
            tell(what + " answered " + got + ", due is " + due.getSimpleName());
        } catch (RuntimeException e) {
            if (e.getClass() != due) {
                tell(what + " threw " + e + ", due is " + due.getSimpleName());
            }
        }
    }

    static void tell(String text) {
        wrong++;
        if (wrong <= MORE_THAN_SHOWN) {
            System.out.println(sentence + text);
        }
    }

    static void finish() {
        String of = sentences > 0 ? " for " + sentences + " sentences" : "";
        System.out.println(checked + " answers looked at" + of + ", " + wrong + " not as due");
        if (wrong > 0 || checked == 0) {
            System.exit(1);
        }
    }
}
