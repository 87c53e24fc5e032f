/** The calls that ask: promises 12 to 15, 17 and 18. */
final class AskingTest {
    private static final long BILLION = 1_000_000_000L;
    private static final long MILLION = 1_000_000L;
    private static final Check CHECK = new Check();

    public static void main(String[] args) {
        totalOfAllRows();
        totalBuysTheLeast();
        totalPrefersAmongTheSame();
        totalThatCannotBe();
        totalOfTheMost();
        totalWrong();
        best();
        bestAmongTheSame();
        each();
        suppliers();
        changed();
        changedIsOfTotalsThatCouldBe();
        changedByNewParts();
        row();
        rowWrong();
        CHECK.end();
    }

    private static CostSteps withPart() {
        CostSteps x = new CostSteps();
        x.part();
        x.uses(0, 1);
        x.board(0, 1, 1);
        return x;
    }

    private static void totalOfAllRows() {
        CostSteps x = withPart();
        x.part();
        x.uses(1, 2);
        x.price(0, 3, 1, 11);
        x.price(1, 4, 1, 13);
        x.tooling(1_000);
        x.assembly(0, 500);
        x.placed(0, 7);
        x.assembly(5, 2_000);
        x.placed(5, 1);
        x.yieldOf(1, 2);
        // Six boards: 1,000 tooling, 6 boards, 21 + 12 placings, 66 and 156 for parts.
        CHECK.due("12: all rows", 1_000 + 6 + 21 + 12 + 66 + 156, x.total(3, 0, 0));
        CHECK.due("12: none started, tooling alone", 1_000, x.total(0, 7, 0));
    }

    private static void totalBuysTheLeast() {
        CostSteps x = withPart();
        x.price(0, 0, 1, 10);
        x.price(0, 0, 50, 4);
        CHECK.due("12: 20 pieces by the first step", 20 + 200, x.total(20, 0, 0));
        CHECK.due("12: pieces of the first step", 20, x.row(3, 0));
        CHECK.due("12: 21 pieces: 50 cost less", 21 + 200, x.total(21, 0, 0));
        CHECK.due("12: pieces of the second step", 50, x.row(3, 0));
        CHECK.due("12: 50 pieces", 50 + 200, x.total(50, 0, 0));
        CHECK.due("12: 51 pieces", 51 + 204, x.total(51, 0, 0));
        x.price(0, 0, 100, 9);
        CHECK.due("12: a dearer step further on is not taken", 200 + 800, x.total(200, 0, 0));
        x.price(0, 5, 1, 3);
        CHECK.due("12: of any maker", 20 + 60, x.total(20, 0, 0));
        x.board(0, 100, 1);
        CHECK.due("12: boards likewise", 20 + 60, x.total(20, 0, 0));
        x.currency(5, 0, 1_000, 3);
        CHECK.due("12: the rate counts", 20 + 200, x.total(20, 0, 0));
        CHECK.due("12: not before its day", 20 + 60, x.total(20, 0, -1));
    }

    private static void totalPrefersAmongTheSame() {
        CostSteps x = withPart();
        x.part();
        x.part();
        x.uses(0, 0);
        x.uses(1, 1);
        x.price(1, 1, 1, 10);
        x.price(2, 0, 1, 10);
        x.alternate(1, 2);
        x.total(10, 0, 0);
        CHECK.due("12: the lower part before the lower maker", 1, x.row(4, 2));
        x.price(0, 7, 1, 10);
        x.alternate(1, 0);
        x.total(10, 0, 0);
        CHECK.due("12: a lower alternate before the part itself", 0, x.row(4, 2));
        CHECK.due("12: and its maker", 7, x.row(4, 1));
        x.price(0, 6, 20, 5);
        x.total(10, 0, 0);
        CHECK.due("12: the lower maker before the fewer pieces", 6, x.row(4, 1));
        CHECK.due("12: and its pieces", 20, x.row(4, 0));
        x.price(0, 6, 50, 2);
        x.price(0, 6, 1, 10);
        x.total(10, 0, 0);
        CHECK.due("12: the least pieces of a maker", 10, x.row(4, 0));
        x.currency(6, 0, 1, 1_000);
        x.price(0, 6, 100, 1);
        x.total(200, 0, 0);
        CHECK.due("12: the same by rounding", 200, x.row(4, 0));
        x.total(1, 0, 0);
        CHECK.due("12: the same by rounding, fewer pieces", 1, x.row(4, 0));
    }

    private static void totalThatCannotBe() {
        CostSteps x = withPart();
        CHECK.due("12: a part that nobody makes", -1, x.total(1, 0, 0));
        CHECK.due("12: none needs none", 0, x.total(0, 0, 0));
        x.stock(0, 5);
        CHECK.due("12: from the stock it can be", 5, x.total(5, 0, 0));
        CHECK.due("12: one more can't be", -1, x.total(6, 0, 0));
        x.price(0, 0, 1, 1);
        CHECK.due("12: boards of a maker that has none", -1, x.total(1, 1, 0));
        x.stock(0, 0);
        x.uses(0, 1_000);
        CHECK.due("12: a billion pieces", BILLION + MILLION, x.total(MILLION, 0, 0));
        x.yieldOf(999, 1_000);
        CHECK.due("12: more than a billion pieces", -1, x.total(MILLION, 0, 0));
        x.stock(0, BILLION);
        CHECK.due("12: a billion from the stock", 1_001_002 + 1_002_000, x.total(MILLION, 0, 0));
    }

    private static void totalOfTheMost() {
        CostSteps x = new CostSteps();
        x.tooling(BILLION);
        x.board(0, 1, 100_000);
        x.currency(0, 0, 1_000, 1);
        x.yieldOf(1, 1_000);
        for (int kind = 0; kind < 8; kind++) {
            x.assembly(kind, MILLION);
            x.placed(kind, 1_000);
        }
        for (int part = 0; part < 30; part++) {
            x.part();
            x.uses(part, 1);
            x.price(part, 0, 1, 100_000);
        }
        long bought = 100_000L * 1_000L * BILLION;
        long most = BILLION + bought + 8 * BILLION * MILLION + 30 * bought;
        CHECK.due("12: the dearest total", most, x.total(MILLION, 0, 0));
        CHECK.due("12: its pieces", BILLION, x.row(32, 0));
        CHECK.due("14: the dearest total by the quantity", most / MILLION, x.each(MILLION, 0, 0, 0));
    }

    private static void totalWrong() {
        CostSteps x = withPart();
        CHECK.noIndex("12: maker -1", () -> x.total(0, -1, 0));
        CHECK.noIndex("12: maker 8", () -> x.total(0, 8, 0));
        CHECK.noIndex("12: maker 8 and no quantity", () -> x.total(-1, 8, 0));
        CHECK.noArgument("12: quantity -1", () -> x.total(-1, 0, 0));
        CHECK.noArgument("12: quantity too high", () -> x.total(MILLION + 1, 0, 0));
        CHECK.noArgument("12: what is right when cut to an int", () -> x.total(1L << 32, 0, 0));
    }

    private static void best() {
        CostSteps x = new CostSteps();
        CHECK.due("13: nobody makes boards", -1, x.best(1, 0));
        CHECK.due("13: none started, the lowest maker", 0, x.best(0, 0));
        x.board(7, 1, 10);
        CHECK.due("13: the only maker", 7, x.best(1, 0));
        x.board(3, 1, 20);
        x.board(3, 100, 5);
        CHECK.due("13: the least for a few", 7, x.best(49, 0));
        CHECK.due("13: of the same the lower", 3, x.best(50, 0));
        CHECK.due("13: the least for many", 3, x.best(51, 0));
        x.currency(3, 9, 2, 1);
        CHECK.due("13: before the rate's day", 3, x.best(51, 8));
        CHECK.due("13: on the rate's day", 7, x.best(51, 9));
        CHECK.noArgument("13: quantity -1", () -> x.best(-1, 0));
        CHECK.noArgument("13: quantity too high", () -> x.best(MILLION + 1, 0));
        x.part();
        x.uses(0, 1);
        CHECK.due("13: a part that nobody makes", -1, x.best(1, 0));
        x.stock(0, 1);
        CHECK.due("13: from the stock", 7, x.best(1, 0));
        x.yieldOf(1, 1_000);
        x.yieldOf(1, 1_000);
        CHECK.due("13: too many started", -1, x.best(MILLION, 0));
    }

    private static void bestAmongTheSame() {
        CostSteps x = new CostSteps();
        x.part();
        x.part();
        x.uses(0, 1);
        x.uses(1, 1);
        x.price(0, 4, 1, 5);
        x.price(1, 5, 1, 5);
        x.board(2, 1, 10);
        x.board(3, 1, 10);
        CHECK.due("13: as many suppliers, the lower", 2, x.best(1, 0));
        x.board(5, 1, 10);
        CHECK.due("13: the fewer suppliers", 5, x.best(1, 0));
        x.board(4, 1, 10);
        CHECK.due("13: as few suppliers, the lower", 4, x.best(1, 0));
        x.price(0, 5, 1, 10);
        x.currency(4, 10, 3, 1);
        CHECK.due("13: suppliers before a rate's day", 4, x.best(1, 9));
        x.currency(5, 9, 1, 1);
        x.price(0, 2, 1, 6);
        // On day 10 maker 4 is dear, so part 0 comes of maker 2: then 2 and 5 have two suppliers each.
        CHECK.due("13: suppliers on that day", 2, x.best(1, 10));
        x.board(2, 1, 9);
        CHECK.due("13: the least before the fewer", 2, x.best(1, 9));
    }

    private static void each() {
        CostSteps x = new CostSteps();
        x.board(1, 1, 10);
        x.tooling(7);
        CHECK.due("14: one board", 17, x.each(1, 1, 0, 0));
        CHECK.due("14: one board has no rest", 0, x.each(1, 1, 0, 1));
        CHECK.due("14: cents of each", 12, x.each(3, 1, 0, 0));
        CHECK.due("14: the rest", 1, x.each(3, 1, 0, 1));
        x.yieldOf(1, 2);
        CHECK.due("14: by the quantity, not by the started", 22, x.each(3, 1, 0, 0));
        CHECK.due("14: the rest then", 1, x.each(3, 1, 0, 1));
        CHECK.due("14: on a day", 22, x.each(3, 1, 5, 0));
        x.currency(1, 5, 1, 2);
        CHECK.due("14: on a day with a rate", 12, x.each(3, 1, 5, 0));
        CHECK.due("14: it can't be", -1, x.each(3, 0, 0, 0));
        CHECK.due("14: the rest can't be", -1, x.each(3, 0, 0, 1));
        CHECK.noIndex("14: maker 8", () -> x.each(1, 8, 0, 0));
        CHECK.noIndex("14: maker -1", () -> x.each(1, -1, 0, 0));
        CHECK.noIndex("14: part2 2", () -> x.each(1, 0, 0, 2));
        CHECK.noIndex("14: part2 -1 and no quantity", () -> x.each(-1, 0, 0, -1));
        CHECK.noArgument("14: quantity 0", () -> x.each(0, 1, 0, 0));
        CHECK.noArgument("14: quantity -1", () -> x.each(-1, 1, 0, 1));
        CHECK.noArgument("14: quantity too high", () -> x.each(MILLION + 1, 1, 0, 0));
        CHECK.noArgument("14: quantity 0 where it can't be", () -> x.each(0, 0, 0, 0));
    }

    private static void suppliers() {
        CostSteps x = withPart();
        CHECK.due("15: it can't be", -1, x.suppliers(1, 0));
        CHECK.due("15: nothing is bought", 0, x.suppliers(0, 0));
        x.price(0, 0, 1, 5);
        CHECK.due("15: boards and parts of one maker", 1, x.suppliers(1, 0));
        x.price(0, 7, 1, 4);
        CHECK.due("15: of two makers", 2, x.suppliers(1, 0));
        x.part();
        x.uses(1, 1);
        x.price(1, 7, 1, 4);
        CHECK.due("15: different makers count once", 2, x.suppliers(1, 0));
        x.currency(7, Long.MAX_VALUE, 2, 1);
        CHECK.due("15: the rate of the last of days counts", 2, x.suppliers(1, 0));
        x.stock(1, 1);
        CHECK.due("15: what the stock has is not bought", 1, x.suppliers(1, 0));
        CHECK.due("15: another maker's boards can't be", -1, x.suppliers(1, 1));
        x.stock(0, 1);
        CHECK.due("15: boards alone", 1, x.suppliers(1, 0));
        CHECK.noIndex("15: maker 8", () -> x.suppliers(1, 8));
        CHECK.noIndex("15: maker -1 and no quantity", () -> x.suppliers(-1, -1));
        CHECK.noArgument("15: quantity -1", () -> x.suppliers(-1, 0));
        CHECK.noArgument("15: quantity too high", () -> x.suppliers(MILLION + 1, 0));
    }

    private static void changed() {
        CostSteps x = withPart();
        x.price(0, 0, 1, 5);
        x.tooling(9);
        CHECK.due("17: before any total", -1, x.changed(0));
        x.total(2, 0, 0);
        CHECK.due("17: the first total: tooling", 0, x.changed(0));
        CHECK.due("17: the first total: boards", 1, x.changed(1));
        CHECK.due("17: the first total: the part, no assembly", 3, x.changed(2));
        CHECK.due("17: no more", -1, x.changed(3));
        CHECK.due("17: k -1", -1, x.changed(-1));
        CHECK.due("17: the least k", -1, x.changed(Integer.MIN_VALUE));
        CHECK.due("17: the greatest k", -1, x.changed(Integer.MAX_VALUE));
        x.total(2, 0, 0);
        CHECK.due("17: the same again", -1, x.changed(0));
        x.placed(1, 1);
        x.assembly(1, 1);
        x.total(2, 0, 0);
        CHECK.due("17: assembly", 2, x.changed(0));
        CHECK.due("17: assembly alone", -1, x.changed(1));
        x.total(0, 0, 0);
        CHECK.due("17: what costs nothing now", 1, x.changed(0));
        CHECK.due("17: and the assembly", 2, x.changed(1));
        CHECK.due("17: and the part", 3, x.changed(2));
    }

    private static void changedIsOfTotalsThatCouldBe() {
        CostSteps x = withPart();
        x.price(0, 0, 1, 5);
        x.tooling(9);
        x.total(2, 0, 0);
        x.tooling(10);
        x.total(2, 1, 0);
        CHECK.due("17: a total that can't be is passed over", 0, x.changed(0));
        CHECK.due("17: the part too", 3, x.changed(2));
        x.total(2, 0, 0);
        CHECK.due("17: against the one that could be: tooling", 0, x.changed(0));
        CHECK.due("17: against the one that could be: no more", -1, x.changed(1));
        x.best(7, 0);
        x.each(7, 0, 0, 0);
        x.suppliers(7, 0);
        CHECK.noIndex("17: a total that throws", () -> x.total(2, 8, 0));
        CHECK.due("17: no other call counts", -1, x.changed(1));
        CHECK.due("18: no other call counts", 2, x.row(1, 0));
        x.price(0, 1, 1, 5);
        x.price(0, 0, 1, 6);
        x.total(2, 0, 0);
        CHECK.due("17: another maker at the same cost is no change", -1, x.changed(0));
        CHECK.due("18: though it is another maker", 1, x.row(3, 1));
    }

    private static void changedByNewParts() {
        CostSteps x = withPart();
        x.price(0, 0, 1, 5);
        x.total(2, 0, 0);
        x.total(2, 0, 0);
        x.part();
        x.uses(1, 1);
        x.price(1, 0, 1, 5);
        CHECK.due("17: a part without a total since", -1, x.changed(0));
        CHECK.noIndex("18: a part without a total since", () -> x.row(4, 0));
        x.total(2, 0, 0);
        CHECK.due("17: a part that was not there costs 0 before", 4, x.changed(0));
        CHECK.due("17: that part alone", -1, x.changed(1));
        x.part();
        x.total(3, 0, 0);
        CHECK.due("17: a part not used is no change", 4, x.changed(2));
        CHECK.due("17: and none behind it", -1, x.changed(3));
    }

    private static void row() {
        CostSteps x = withPart();
        x.board(2, 10, 3);
        x.price(0, 5, 1, 7);
        x.part();
        x.tooling(5);
        x.assembly(0, 5);
        x.placed(0, 5);
        x.total(4, 2, 0);
        int[][] due = {{0, -1, -1}, {10, 2, -1}, {0, -1, -1}, {4, 5, 0}, {0, -1, -1}};
        rowsAreDue("18: ", x, due);
        CHECK.due("18: a total that can't be", -1, x.total(4, 7, 0));
        rowsAreDue("18: after a total that can't be, ", x, due);
        x.total(0, 2, 0);
        rowsAreDue("18: of none, ", x, new int[][] {{0, -1, -1}, {0, -1, -1}, {0, -1, -1}, {0, -1, -1}, {0, -1, -1}});
    }

    private static void rowsAreDue(String when, CostSteps x, int[][] due) {
        for (int k = 0; k < due.length; k++) {
            for (int what = 0; what < 3; what++) {
                CHECK.due(when + "row(" + k + ", " + what + ")", due[k][what], x.row(k, what));
            }
        }
    }

    private static void rowWrong() {
        CostSteps x = withPart();
        CHECK.noIndex("18: no total yet", () -> x.row(0, 0));
        x.total(1, 0, 0);
        CHECK.noIndex("18: no total that could be", () -> x.row(0, 0));
        x.price(0, 0, 1, 1);
        x.best(1, 0);
        CHECK.noIndex("18: best() is no total()", () -> x.row(0, 0));
        x.total(1, 0, 0);
        CHECK.noIndex("18: row -1", () -> x.row(-1, 0));
        CHECK.noIndex("18: row 4 with one part", () -> x.row(4, 0));
        CHECK.noIndex("18: what -1", () -> x.row(0, -1));
        CHECK.noIndex("18: what 3", () -> x.row(0, 3));
        CHECK.due("18: the last row", 1, x.row(3, 0));
    }
}
