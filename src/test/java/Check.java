/** Counts what was checked and tells what was not as it is due. */
final class Check {
    interface Call {
        Object answer();
    }

    private static int checked = 0;
    private static int wrong = 0;

    private Check() {
    }

    /** What a call answers: its answer as a text, or throws. and the name of the exception. */
    static String answerOf(Call call) {
        try {
            return String.valueOf(call.answer());
        } catch (RuntimeException e) {
            return "throws." + e.getClass().getSimpleName();
        }
    }

    static void due(String what, Object want, Call call) {
        String got = answerOf(call);
        checked++;
        if (!got.equals(String.valueOf(want))) {
            wrong++;
            System.out.println(what + " answered " + got + ", due is " + want);
        }
    }

    static void dueIndex(String what, Call call) {
        due(what, "throws.IndexOutOfBoundsException", call);
    }

    static void dueArgument(String what, Call call) {
        due(what, "throws.IllegalArgumentException", call);
    }

    static void dueState(String what, Call call) {
        due(what, "throws.IllegalStateException", call);
    }

    /** To be called last: ends the run with exit code 1 if anything was wrong. */
    static void end() {
        System.out.println(checked + " checks, " + wrong + " wrong");
        if (wrong != 0 || checked == 0) {
            System.exit(1);
        }
    }
}
