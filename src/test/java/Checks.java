import java.util.Objects;

/** What the tests share: they count what is wrong, and end with exit code 1 if anything was. */
final class Checks {
    private static int done = 0;
    private static int wrong = 0;

    interface Call {
        Object answer();
    }

    private Checks() {
    }

    static void same(String what, Object got, Object due) {
        done++;
        if (!Objects.equals(got, due)) {
            wrong++;
            System.out.println(what + " answered " + got + ", due is " + due);
        }
    }

    static void same(String what, long got, long due) {
        same(what, (Object) got, (Object) due);
    }

    /** Compares by ==, so that 0.0 and -0.0 are the same. */
    static void same(String what, double got, double due) {
        done++;
        if (got != due) {
            wrong++;
            System.out.println(what + " answered " + got + ", due is " + due);
        }
    }

    /** The answer of the call, or the name of the exception that it throws. */
    static Object outcome(Call call) {
        try {
            return call.answer();
        } catch (RuntimeException e) {
            return "throws." + e.getClass().getSimpleName();
        }
    }

    /** That the call throws just that exception, and changes nothing. */
    static void refused(ChuteLoft loft, Class<? extends RuntimeException> due, String what, Call call) {
        String before = stateOf(loft);
        same(what, outcome(call), "throws." + due.getSimpleName());
        same("what stands behind " + what, stateOf(loft), before);
    }

    static void throwsArgument(ChuteLoft loft, String what, Call call) {
        refused(loft, IllegalArgumentException.class, what, call);
    }

    static void throwsState(ChuteLoft loft, String what, Call call) {
        refused(loft, IllegalStateException.class, what, call);
    }

    static void throwsIndex(ChuteLoft loft, String what, Call call) {
        refused(loft, IndexOutOfBoundsException.class, what, call);
    }

    /** All that can be asked about who is aboard, with the digest for the rest. */
    static String stateOf(ChuteLoft loft) {
        StringBuilder state = new StringBuilder();
        state.append(loft.digest());
        for (int place = 0; place < loft.many(4); place++) {
            state.append(' ').append(loft.order(place));
        }
        state.append(' ').append(loft.spot(1)).append(' ').append(loft.wouldMeet(1, -40));
        return state.toString();
    }

    static void finish() {
        System.out.println(done + " checks, " + wrong + " wrong");
        if (wrong != 0 || done == 0) {
            System.exit(1);
        }
    }
}
