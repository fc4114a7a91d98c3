/** Counts answers that are as due, prints those that are not, and ends the program with 1 if there was one. */
final class Check {
    interface Call {
        long answer();
    }

    private final String name;
    private int right;
    private int wrong;

    Check(String name) {
        this.name = name;
    }

    void same(String call, long due, long got) {
        tell(due == got, call + " answered " + got + ", due is " + due);
    }

    void yes(String call, boolean got) {
        tell(got, call + " answered false, due is true");
    }

    void no(String call, boolean got) {
        tell(!got, call + " answered true, due is false");
    }

    void noIndex(String call, Call made) {
        isThrown(IndexOutOfBoundsException.class, call, made);
    }

    void noArgument(String call, Call made) {
        isThrown(IllegalArgumentException.class, call, made);
    }

    void noState(String call, Call made) {
        isThrown(IllegalStateException.class, call, made);
    }

    static long one(boolean answer) {
        return answer ? 1 : 0;
    }

    private void isThrown(Class<?> due, String call, Call made) {
        String got;
        try {
            got = "answered " + made.answer();
        } catch (RuntimeException thrown) {
            if (thrown.getClass() == due && isThrownByTheLoft(thrown)) {
                right++;
                return;
            }
            got = "threw " + thrown;
        }
        tell(false, call + " " + got + ", due is " + due.getSimpleName());
    }

    /** What the machine or its library throws is not due, be it of the due class. */
    static boolean isThrownByTheLoft(Throwable thrown) {
        StackTraceElement[] trace = thrown.getStackTrace();
        return trace.length > 0 && trace[0].getClassName().startsWith("GrandsireLoft");
    }

    private void tell(boolean isRight, String text) {
        if (isRight) {
            right++;
        } else {
            wrong++;
            System.out.println(name + ": " + text);
        }
    }

    void end() {
        System.out.println(name + ": " + right + " answers as due, " + wrong + " not");
        if (wrong != 0 || right == 0) {
            System.exit(1);
        }
    }
}
