/** Looks at an object by every call that asks, so that two objects can be compared; some 260 calls. */
final class Probe {
    private static final long[] QUANTITIES = {1, 40, 1_000};
    private static final long[] DAYS = {Long.MIN_VALUE, -1, 1, Long.MAX_VALUE};
    private static final int ROWS = 7;

    private Probe() {
    }

    static String of(CostSteps x) {
        StringBuilder seen = new StringBuilder(rows(x));
        for (long quantity : QUANTITIES) {
            for (int maker = 0; maker < 8; maker++) {
                seen.append(" s").append(x.suppliers(quantity, maker));
                for (long day : DAYS) {
                    seen.append(" e").append(x.each(quantity, maker, day, 0));
                    seen.append('+').append(x.each(quantity, maker, day, 1));
                }
            }
            for (long day : DAYS) {
                seen.append(" b").append(x.best(quantity, day));
            }
        }
        seen.append(" t").append(x.total(0, 0, 0));
        seen.append(" p").append(x.part());
        return seen.toString();
    }

    /** What the latest total tells of itself. */
    static String rows(CostSteps x) {
        StringBuilder seen = new StringBuilder();
        for (int k = 0; k < ROWS; k++) {
            seen.append(" c").append(x.changed(k));
            for (int what = 0; what < 3; what++) {
                seen.append(" r").append(x.row(k, what));
            }
        }
        return seen.toString();
    }
}
