/** The calls that tell an object something: promises 1 to 11, and 16. */
final class TellingTest {
    private static final long BILLION = 1_000_000_000L;
    private static final Check CHECK = new Check();

    public static void main(String[] args) {
        newObject();
        part();
        price();
        uses();
        board();
        assembly();
        placed();
        yieldOf();
        yieldsMakeStarted();
        currency();
        rateOfADay();
        tooling();
        stock();
        alternate();
        CHECK.end();
    }

    private static CostSteps withParts(int count) {
        CostSteps x = new CostSteps();
        for (int i = 0; i < count; i++) {
            x.part();
        }
        return x;
    }

    private static void newObject() {
        CostSteps x = new CostSteps();
        CHECK.due("1: total of none", 0, x.total(0, 0, 0));
        CHECK.due("1: total of one without steps", -1, x.total(1, 0, 0));
        CHECK.due("1: best of none", 0, x.best(0, 0));
        CHECK.due("1: best of one", -1, x.best(1, 0));
        CHECK.due("1: suppliers of none", 0, x.suppliers(0, 0));
        CHECK.due("1: changed", -1, x.changed(0));
        CHECK.noIndex("1: uses without parts", () -> Check.number(x.uses(0, 1)));
        CHECK.noIndex("1: row of a part without parts", () -> x.row(3, 0));
        CostSteps y = new CostSteps();
        CHECK.noIndex("1: row without a total", () -> y.row(0, 0));
        withParts(3);
        CHECK.due("1: objects share no parts", 0, y.part());
    }

    private static void part() {
        CostSteps x = new CostSteps();
        for (int i = 0; i < 30; i++) {
            CHECK.due("2: part()", i, x.part());
        }
        CHECK.due("2: the 31st part()", -1, x.part());
        CHECK.due("2: the 32nd part()", -1, x.part());
        x.board(0, 1, 10);
        CHECK.due("2: a new part is not used", 10, x.total(1, 0, 0));
        CHECK.no("2: uses(29, 0) of a new part", x.uses(29, 0));
        CHECK.noIndex("2: there is no part 30", () -> Check.number(x.uses(30, 0)));
    }

    private static void price() {
        CostSteps x = withParts(2);
        x.uses(0, 1);
        x.board(0, 1, 1);
        CHECK.yes("3: price(0, 7, 1, 9)", x.price(0, 7, 1, 9));
        CHECK.no("3: price told again", x.price(0, 7, 1, 9));
        CHECK.due("3: total by the step", 100, x.total(10, 0, 0));
        CHECK.yes("3: price of the step anew", x.price(0, 7, 1, 8));
        CHECK.due("3: total by the new price", 90, x.total(10, 0, 0));
        for (int i = 2; i <= 6; i++) {
            CHECK.yes("3: step " + i, x.price(0, 7, 100L * i, 7));
        }
        CHECK.no("3: a seventh step", x.price(0, 7, 2, 1));
        CHECK.due("3: the seventh step is not there", 90, x.total(10, 0, 0));
        CHECK.yes("3: one of six changes still", x.price(0, 7, 600, 6));
        CHECK.no("3: one of six that is so already", x.price(0, 7, 600, 6));
        CHECK.yes("3: another maker has six of its own", x.price(0, 6, 2, 100_000));
        CHECK.yes("3: another part has six of its own", x.price(1, 7, 2, 1));
        CHECK.yes("3: the highest from and the lowest cents", x.price(1, 0, BILLION, 1));
        CHECK.yes("3: the lowest from and the highest cents", x.price(1, 0, 1, 100_000));
        priceWrong(x);
    }

    private static void priceWrong(CostSteps x) {
        CHECK.noIndex("3: part -1", () -> Check.number(x.price(-1, 0, 1, 1)));
        CHECK.noIndex("3: part 2 of two", () -> Check.number(x.price(2, 0, 1, 1)));
        CHECK.noIndex("3: maker -1", () -> Check.number(x.price(0, -1, 1, 1)));
        CHECK.noIndex("3: maker 8", () -> Check.number(x.price(0, 8, 1, 1)));
        CHECK.noIndex("3: maker 8 and from 0", () -> Check.number(x.price(0, 8, 0, 1)));
        CHECK.noArgument("3: from 0", () -> Check.number(x.price(0, 0, 0, 1)));
        CHECK.noArgument("3: from too high", () -> Check.number(x.price(0, 0, BILLION + 1, 1)));
        CHECK.noArgument("3: cents 0", () -> Check.number(x.price(0, 0, 1, 0)));
        CHECK.noArgument("3: cents too high", () -> Check.number(x.price(0, 0, 1, 100_001)));
        CHECK.noArgument("3: wrong cents in a full list", () -> Check.number(x.price(0, 7, 2, 0)));
        CHECK.noArgument("3: the least long", () -> Check.number(x.price(0, 0, Long.MIN_VALUE, 1)));
        CHECK.noArgument("3: what is right when cut to an int", () -> Check.number(x.price(0, 0, 1, (1L << 32) + 1)));
    }

    private static void uses() {
        CostSteps x = withParts(2);
        x.board(0, 1, 1);
        x.price(1, 0, 1, 10);
        CHECK.no("4: uses(1, 0) at first", x.uses(1, 0));
        CHECK.yes("4: uses(1, 3)", x.uses(1, 3));
        CHECK.no("4: uses(1, 3) again", x.uses(1, 3));
        CHECK.due("4: total with three a board", 62, x.total(2, 0, 0));
        CHECK.yes("4: uses(1, 1000)", x.uses(1, 1_000));
        CHECK.due("4: total with a thousand a board", 20_002, x.total(2, 0, 0));
        CHECK.yes("4: uses(1, 0)", x.uses(1, 0));
        CHECK.due("4: total without the part", 2, x.total(2, 0, 0));
        CHECK.noIndex("4: part 2 of two", () -> Check.number(x.uses(2, 1)));
        CHECK.noIndex("4: part -1", () -> Check.number(x.uses(-1, -1)));
        CHECK.noArgument("4: n -1", () -> Check.number(x.uses(1, -1)));
        CHECK.noArgument("4: n 1,001", () -> Check.number(x.uses(1, 1_001)));
    }

    private static void board() {
        CostSteps x = new CostSteps();
        CHECK.yes("5: board(7, 1, 50)", x.board(7, 1, 50));
        CHECK.no("5: board told again", x.board(7, 1, 50));
        CHECK.due("5: total of three", 150, x.total(3, 7, 0));
        CHECK.due("5: total of a maker without steps", -1, x.total(3, 6, 0));
        CHECK.yes("5: the price of the step anew", x.board(7, 1, 40));
        CHECK.due("5: total by the new price", 120, x.total(3, 7, 0));
        for (int i = 2; i <= 6; i++) {
            CHECK.yes("5: step " + i, x.board(7, 10L * i, 30));
        }
        CHECK.no("5: a seventh step", x.board(7, 2, 1));
        CHECK.due("5: the seventh step is not there", 120, x.total(3, 7, 0));
        CHECK.yes("5: one of six changes still", x.board(7, 60, 29));
        CHECK.yes("5: the highest numbers", x.board(0, BILLION, 100_000));
        CHECK.due("5: boards bought from a billion on", 100_000 * BILLION, x.total(1, 0, 0));
        CHECK.noIndex("5: maker 8", () -> Check.number(x.board(8, 1, 1)));
        CHECK.noIndex("5: maker -1 and from 0", () -> Check.number(x.board(-1, 0, 1)));
        CHECK.noArgument("5: from 0", () -> Check.number(x.board(0, 0, 1)));
        CHECK.noArgument("5: from too high", () -> Check.number(x.board(0, BILLION + 1, 1)));
        CHECK.noArgument("5: cents 0", () -> Check.number(x.board(0, 1, 0)));
        CHECK.noArgument("5: cents too high", () -> Check.number(x.board(0, 1, 100_001)));
    }

    private static void assembly() {
        CostSteps x = new CostSteps();
        x.board(0, 1, 1);
        x.placed(7, 1);
        x.placed(0, 1);
        CHECK.no("6: assembly(7, 0) at first", x.assembly(7, 0));
        CHECK.yes("6: assembly(7, 1)", x.assembly(7, 1));
        CHECK.no("6: assembly(7, 1) again", x.assembly(7, 1));
        CHECK.due("6: a thousandth is rounded up", 2, x.total(1, 0, 0));
        CHECK.due("6: a whole cent is not", 1_001, x.total(1_000, 0, 0));
        CHECK.yes("6: assembly(0, 1)", x.assembly(0, 1));
        CHECK.due("6: each kind is rounded by itself", 3, x.total(1, 0, 0));
        CHECK.yes("6: assembly(0, 1000000)", x.assembly(0, 1_000_000));
        CHECK.due("6: a thousand cents a placing", 1_002, x.total(1, 0, 0));
        CHECK.noIndex("6: kind 8", () -> Check.number(x.assembly(8, 1)));
        CHECK.noIndex("6: kind -1 and cents -1", () -> Check.number(x.assembly(-1, -1)));
        CHECK.noArgument("6: cents -1", () -> Check.number(x.assembly(0, -1)));
        CHECK.noArgument("6: cents 1,000,001", () -> Check.number(x.assembly(0, 1_000_001)));
    }

    private static void placed() {
        CostSteps x = new CostSteps();
        x.board(0, 1, 1);
        x.assembly(7, 1_000);
        CHECK.no("7: placed(7, 0) at first", x.placed(7, 0));
        CHECK.yes("7: placed(7, 5)", x.placed(7, 5));
        CHECK.no("7: placed(7, 5) again", x.placed(7, 5));
        CHECK.due("7: five placings on each of two", 12, x.total(2, 0, 0));
        CHECK.yes("7: placed(7, 1000)", x.placed(7, 1_000));
        CHECK.due("7: a thousand placings on each of two", 2_002, x.total(2, 0, 0));
        CHECK.noIndex("7: kind 8", () -> Check.number(x.placed(8, 1)));
        CHECK.noIndex("7: kind -1 and n -1", () -> Check.number(x.placed(-1, -1)));
        CHECK.noArgument("7: n -1", () -> Check.number(x.placed(0, -1)));
        CHECK.noArgument("7: n 1,001", () -> Check.number(x.placed(0, 1_001)));
    }

    private static void yieldOf() {
        CostSteps x = new CostSteps();
        CHECK.noArgument("8: above 0", () -> Check.number(x.yieldOf(0, 1)));
        CHECK.noArgument("8: below 0", () -> Check.number(x.yieldOf(1, 0)));
        CHECK.noArgument("8: above and below negative", () -> Check.number(x.yieldOf(-2, -1)));
        CHECK.noArgument("8: below 1,001", () -> Check.number(x.yieldOf(1, 1_001)));
        CHECK.noArgument("8: both 1,001", () -> Check.number(x.yieldOf(1_001, 1_001)));
        CHECK.noArgument("8: above greater", () -> Check.number(x.yieldOf(3, 2)));
        for (int i = 1; i <= 8; i++) {
            CHECK.yes("8: yield " + i, x.yieldOf(1_000, 1_000));
        }
        CHECK.no("8: a ninth yield", x.yieldOf(1, 2));
        CHECK.noArgument("8: a wrong ninth yield", () -> Check.number(x.yieldOf(2, 1)));
        x.board(0, 1, 1);
        CHECK.due("8: yields of 1 / 1 lose nothing", 5, x.total(5, 0, 0));
    }

    private static void yieldsMakeStarted() {
        CostSteps x = new CostSteps();
        x.board(0, 1, 1);
        x.yieldOf(2, 3);
        CHECK.due("8: 4 * 3 / 2", 6, x.total(4, 0, 0));
        CHECK.due("8: 5 * 3 / 2, rounded up", 8, x.total(5, 0, 0));
        x.yieldOf(5, 7);
        // From the last: 3 * 7 / 5 up is 5, 5 * 3 / 2 up is 8; from the first it would be 7.
        CHECK.due("8: the last told yield comes first", 8, x.total(3, 0, 0));
        CostSteps y = new CostSteps();
        y.board(0, 1, 1);
        y.yieldOf(1, 1_000);
        CHECK.due("8: a billion boards can be", BILLION, y.total(1_000_000, 0, 0));
        y.yieldOf(999, 1_000);
        CHECK.due("8: more than a billion can't be", -1, y.total(1_000_000, 0, 0));
        CHECK.due("8: just a billion, 999,000 * 1,000 / 999 * 1,000", BILLION, y.total(999_000, 0, 0));
        CHECK.due("8: one board more can't be", -1, y.total(999_001, 0, 0));
        for (int i = 0; i < 6; i++) {
            y.yieldOf(1, 1_000);
        }
        CHECK.due("8: eight yields far beyond a long", -1, y.total(1_000_000, 0, 0));
        CHECK.due("8: one board, far beyond a long", -1, y.total(1, 0, 0));
        CHECK.due("8: no boards need none", 0, y.total(0, 0, 0));
    }

    private static void currency() {
        CostSteps x = new CostSteps();
        CHECK.yes("9: currency(7, 0, 1, 1)", x.currency(7, 0, 1, 1));
        CHECK.no("9: currency told again", x.currency(7, 0, 1, 1));
        CHECK.yes("9: another above", x.currency(7, 0, 2, 1));
        CHECK.yes("9: another below", x.currency(7, 0, 2, 1_000));
        CHECK.yes("9: the least day", x.currency(7, Long.MIN_VALUE, 1_000, 1));
        CHECK.yes("9: the greatest day", x.currency(7, Long.MAX_VALUE, 1, 2));
        for (int day = 1; day <= 3; day++) {
            CHECK.yes("9: day " + day, x.currency(7, day, 1, 1));
        }
        CHECK.no("9: a seventh day", x.currency(7, 4, 1, 1));
        CHECK.yes("9: one of six changes still", x.currency(7, 3, 1, 3));
        CHECK.yes("9: another maker has days of its own", x.currency(6, 4, 1, 1));
        CHECK.noIndex("9: maker 8", () -> Check.number(x.currency(8, 0, 1, 1)));
        CHECK.noIndex("9: maker -1 and above 0", () -> Check.number(x.currency(-1, 0, 0, 1)));
        CHECK.noArgument("9: above 0", () -> Check.number(x.currency(0, 0, 0, 1)));
        CHECK.noArgument("9: above 1,001", () -> Check.number(x.currency(0, 0, 1_001, 1)));
        CHECK.noArgument("9: below 0", () -> Check.number(x.currency(0, 0, 1, 0)));
        CHECK.noArgument("9: below 1,001", () -> Check.number(x.currency(0, 0, 1, 1_001)));
        CHECK.noArgument("9: no rate on a seventh day", () -> Check.number(x.currency(7, 9, 0, 1)));
    }

    private static void rateOfADay() {
        CostSteps x = new CostSteps();
        x.board(2, 1, 10);
        x.currency(2, 20, 3, 1);
        x.currency(2, 10, 2, 3);
        x.currency(2, -5, 5, 1);
        CHECK.due("9: before all told days", 10, x.total(1, 2, -6));
        CHECK.due("9: on the first told day", 50, x.total(1, 2, -5));
        CHECK.due("9: the day before the second", 50, x.total(1, 2, 9));
        CHECK.due("9: on the second, rounded up", 7, x.total(1, 2, 10));
        CHECK.due("9: rounded once for all pieces", 20, x.total(3, 2, 19));
        CHECK.due("9: on the last", 30, x.total(1, 2, 20));
        CHECK.due("9: long behind the last", 30, x.total(1, 2, Long.MAX_VALUE));
        CHECK.due("9: long before the first", 10, x.total(1, 2, Long.MIN_VALUE));
        x.currency(2, 30, 4, 1);
        CHECK.due("9: a later day told later", 40, x.total(1, 2, 30));
        x.currency(2, 15, 6, 1);
        CHECK.due("9: a day between told last", 60, x.total(1, 2, 19));
        CHECK.due("9: the latest day, not the last told", 40, x.total(1, 2, 31));
        x.currency(2, Long.MIN_VALUE, 7, 1);
        CHECK.due("9: the least day is a day", 70, x.total(1, 2, Long.MIN_VALUE));
        x.board(3, 1, 10);
        CHECK.due("9: another maker's rate is its own", 10, x.total(1, 3, 20));
    }

    private static void tooling() {
        CostSteps x = new CostSteps();
        x.board(0, 1, 1);
        CHECK.no("10: tooling(0) at first", x.tooling(0));
        CHECK.yes("10: tooling(700)", x.tooling(700));
        CHECK.no("10: tooling(700) again", x.tooling(700));
        CHECK.due("10: once, not for each board", 705, x.total(5, 0, 0));
        CHECK.due("10: alone without boards", 700, x.total(0, 0, 0));
        CHECK.yes("10: the most", x.tooling(BILLION));
        CHECK.due("10: total with the most", BILLION, x.total(0, 0, 0));
        CHECK.noArgument("10: -1", () -> Check.number(x.tooling(-1)));
        CHECK.noArgument("10: more than the most", () -> Check.number(x.tooling(BILLION + 1)));
        CHECK.due("10: wrong cents change nothing", BILLION, x.total(0, 0, 0));
    }

    private static void stock() {
        CostSteps x = withParts(2);
        x.board(0, 1, 1);
        x.uses(1, 3);
        x.price(1, 0, 1, 10);
        CHECK.no("11: stock(1, 0) at first", x.stock(1, 0));
        CHECK.yes("11: stock(1, 5)", x.stock(1, 5));
        CHECK.no("11: stock(1, 5) again", x.stock(1, 5));
        CHECK.due("11: the stock goes first", 12, x.total(2, 0, 0));
        CHECK.due("11: a total takes nothing out of the stock", 12, x.total(2, 0, 0));
        CHECK.yes("11: stock(1, 6)", x.stock(1, 6));
        CHECK.due("11: all from the stock", 2, x.total(2, 0, 0));
        CHECK.yes("11: the most", x.stock(1, BILLION));
        CHECK.due("11: more than is used", 2, x.total(2, 0, 0));
        CHECK.noIndex("11: part 2 of two", () -> Check.number(x.stock(2, 1)));
        CHECK.noIndex("11: part -1 and n -1", () -> Check.number(x.stock(-1, -1)));
        CHECK.noArgument("11: n -1", () -> Check.number(x.stock(1, -1)));
        CHECK.noArgument("11: more than the most", () -> Check.number(x.stock(1, BILLION + 1)));
    }

    private static void alternate() {
        CostSteps x = withParts(3);
        x.board(0, 1, 1);
        x.uses(0, 1);
        x.price(2, 0, 1, 5);
        CHECK.due("16: nobody makes part 0", -1, x.total(1, 0, 0));
        CHECK.yes("16: alternate(2, 0)", x.alternate(2, 0));
        CHECK.due("16: not the other way round", -1, x.total(1, 0, 0));
        CHECK.yes("16: alternate(0, 1)", x.alternate(0, 1));
        CHECK.yes("16: alternate(1, 2)", x.alternate(1, 2));
        CHECK.due("16: not the alternate of an alternate", -1, x.total(1, 0, 0));
        CHECK.yes("16: alternate(0, 2)", x.alternate(0, 2));
        CHECK.no("16: alternate(0, 2) again", x.alternate(0, 2));
        CHECK.due("16: bought as part 2", 6, x.total(1, 0, 0));
        CHECK.due("16: which part", 2, x.row(3, 2));
        CHECK.no("16: alternate(0, 1) is so still", x.alternate(0, 1));
        x.price(1, 0, 1, 4);
        CHECK.due("16: bought as part 1, the cheaper alternate", 5, x.total(1, 0, 0));
        x.price(1, 0, 1, 9);
        CHECK.due("16: bought as part 2 again", 6, x.total(1, 0, 0));
        x.stock(2, 100);
        CHECK.due("16: an alternate's stock is not used", 6, x.total(1, 0, 0));
        CHECK.no("16: a part of itself", x.alternate(1, 1));
        CHECK.noIndex("16: part 3 of three", () -> Check.number(x.alternate(3, 0)));
        CHECK.noIndex("16: other 3 of three", () -> Check.number(x.alternate(0, 3)));
        CHECK.noIndex("16: both the same, and not there", () -> Check.number(x.alternate(3, 3)));
        CHECK.noIndex("16: part -1", () -> Check.number(x.alternate(-1, 0)));
        CHECK.noIndex("16: other -1", () -> Check.number(x.alternate(0, -1)));
        CHECK.noIndex("16: other 32, whose bit would be that of 0", () -> Check.number(x.alternate(0, 32)));
        CostSteps y = withParts(30);
        CHECK.yes("16: alternate(29, 0) of thirty", y.alternate(29, 0));
        CHECK.yes("16: alternate(0, 29) of thirty", y.alternate(0, 29));
        CHECK.no("16: alternate(0, 29) again", y.alternate(0, 29));
    }
}
