/** Tries one argument of a call on both sides of its limits, each time on a new object. */
final class Edges {
    interface IndexCall {
        Object make(CostSteps x, int index);
    }

    interface NumberCall {
        Object make(CostSteps x, long number);
    }

    private static final long PAST_INT = 1L << 32;
    private final Check check;
    private final String untouched = Probe.of(Samples.rich());

    Edges(Check check) {
        this.check = check;
    }

    /** An index is 0 .. count - 1. */
    void index(String argument, int count, IndexCall call) {
        for (int index = 0; index < count; index++) {
            answers(argument, index, call);
        }
        int[] wrong = {-1, count, count + 1, -count, count + 32, count + 64, Integer.MIN_VALUE, Integer.MAX_VALUE};
        for (int index : wrong) {
            refuses(argument + " " + index, IndexOutOfBoundsException.class, x -> call.make(x, index));
        }
    }

    private void answers(String argument, int index, IndexCall call) {
        CostSteps x = Samples.rich();
        check.answers(argument + " " + index, () -> call.make(x, index));
    }

    /** A number is least .. most; what is right when it is cut to an int is wrong all the same. */
    void number(String argument, long least, long most, NumberCall call) {
        for (long number : new long[] {least, least + 1, most - 1, most}) {
            CostSteps x = Samples.rich();
            check.answers(argument + " " + number, () -> call.make(x, number));
        }
        tooSmall(argument, least, call);
        tooLarge(argument, most, call);
    }

    void tooSmall(String argument, long least, NumberCall call) {
        wrongNumbers(argument, call, least - 1, -1, least - PAST_INT, Long.MIN_VALUE, Long.MIN_VALUE + least);
    }

    void tooLarge(String argument, long most, NumberCall call) {
        wrongNumbers(argument, call, most + 1, most + PAST_INT, Integer.MAX_VALUE, Long.MAX_VALUE);
    }

    private void wrongNumbers(String argument, NumberCall call, long... wrong) {
        for (long number : wrong) {
            refuses(argument + " " + number, IllegalArgumentException.class, x -> call.make(x, number));
        }
    }

    interface CallOn {
        Object make(CostSteps x);
    }

    /** Where both kinds of argument are wrong, it is the index that is told. */
    void noIndex(String what, CallOn call) {
        refuses(what, IndexOutOfBoundsException.class, call);
    }

    void noArgument(String what, CallOn call) {
        refuses(what, IllegalArgumentException.class, call);
    }

    private void refuses(String what, Class<? extends RuntimeException> due, CallOn call) {
        CostSteps x = Samples.rich();
        check.thrown(what, due, () -> call.make(x));
        check.same(what + ", and what was before:", untouched, Probe.of(x));
    }

    /** A call that answers the same at each asking and leaves an object as it was. */
    void changesNothing(String what, CostSteps touched, CostSteps same, CallOn call) {
        check.answers(what, () -> call.make(touched));
        check.same(what + ", and what was before:", Probe.of(same), Probe.of(touched));
    }
}
