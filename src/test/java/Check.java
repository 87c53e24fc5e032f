/** Counts the answers of one test that are not as due, and prints each. */
final class Check {
    /** A call of which only the answer, as a number, or the exception matters. */
    interface Call {
        long answer();
    }

    private int checked = 0;
    private int wrong = 0;

    void due(String call, long want, long got) {
        checked++;
        if (got != want) {
            wrong++;
            System.out.println(call + " answered " + got + ", due is " + want);
        }
    }

    void yes(String call, boolean got) {
        due(call, 1, got ? 1 : 0);
    }

    void no(String call, boolean got) {
        due(call, 0, got ? 1 : 0);
    }

    void noIndex(String call, Call made) {
        thrown(call, IndexOutOfBoundsException.class, made);
    }

    void noArgument(String call, Call made) {
        thrown(call, IllegalArgumentException.class, made);
    }

    /** The class must be the very one: a class below it would be thrown by the machine. */
    private void thrown(String call, Class<?> want, Call made) {
        checked++;
        String got = "answered ";
        try {
            got += made.answer();
        } catch (RuntimeException e) {
            if (e.getClass() == want) {
                return;
            }
            got = "threw " + e;
        }
        wrong++;
        System.out.println(call + " " + got + ", due is " + want.getSimpleName());
    }

    void end() {
        System.out.println(checked + " answers looked at, " + wrong + " wrong");
        if (wrong != 0) {
            System.exit(1);
        }
    }

    static long number(boolean answer) {
        return answer ? 1 : 0;
    }
}
