import java.util.Objects;

/** Counts the answers of one test that are not as due, and prints each with the sentence that asks for it. */
final class Check {
    /** A call of which only the answer or the exception matters. */
    interface Call {
        Object answer();
    }

    private int checked = 0;
    private int wrong = 0;
    private String sentence = "";

    /** From here on the answers are those that this sentence of the document asks for. */
    void of(String words) {
        sentence = words + ": ";
    }

    void due(String call, long want, long got) {
        same(call, want, got);
    }

    void yes(String call, boolean got) {
        same(call, true, got);
    }

    void no(String call, boolean got) {
        same(call, false, got);
    }

    void same(String call, Object want, Object got) {
        checked++;
        if (!Objects.equals(want, got)) {
            wrong(call, "answered " + got, String.valueOf(want));
        }
    }

    void noIndex(String call, Call made) {
        thrown(call, IndexOutOfBoundsException.class, made);
    }

    void noArgument(String call, Call made) {
        thrown(call, IllegalArgumentException.class, made);
    }

    void answers(String call, Call made) {
        checked++;
        try {
            made.answer();
        } catch (RuntimeException e) {
            wrong(call, "threw " + e, "an answer");
        }
    }

    /** The class must be the very one: a class below it would be thrown by the machine. */
    void thrown(String call, Class<? extends RuntimeException> want, Call made) {
        checked++;
        String got;
        try {
            got = "answered " + made.answer();
        } catch (RuntimeException e) {
            if (e.getClass() == want) {
                return;
            }
            got = "threw " + e;
        }
        wrong(call, got, want.getSimpleName());
    }

    private void wrong(String call, String got, String want) {
        wrong++;
        System.out.println(sentence + call + " " + got + ", due is " + want);
    }

    void end() {
        System.out.println(checked + " answers looked at, " + wrong + " wrong");
        if (wrong != 0) {
            System.exit(1);
        }
    }
}
