/** The calls that ask, promises 12 to 15, 17 and 18, sentence by sentence. */
final class AskingTest {
    private static final long BILLION = 1_000_000_000L;
    private static final long MILLION = 1_000_000L;
    private static final Check CHECK = new Check();
    private static final Document DOCUMENT = new Document(CHECK);
    private static final Edges EDGES = new Edges(CHECK);

    public static void main(String[] args) {
        promise12();
        promise13();
        promise14();
        promise15();
        promise17();
        promise18();
        CHECK.end();
    }

    private static void promise12() {
        DOCUMENT.section("Promise 12");
        totalOnADay();
        totalThatCannotBe();
        totalIsRemembered();
        DOCUMENT.quote("IndexOutOfBoundsException, when there is no such maker");
        EDGES.index("maker", 8, (y, maker) -> y.total(1, maker, 0));
        EDGES.noIndex("maker 8 of none", y -> y.total(0, 8, 0));
        EDGES.noIndex("maker 8 and no quantity", y -> y.total(-1, 8, 0));
        DOCUMENT.quote("IllegalArgumentException, when it is no quantity");
        EDGES.number("quantity", 0, MILLION, (y, quantity) -> y.total(quantity, 0, 0));
        EDGES.noArgument("no quantity on the least day", y -> y.total(-1, 0, Long.MIN_VALUE));
        CostSteps x = new CostSteps();
        CHECK.noArgument("no quantity where nothing can be", () -> x.total(MILLION + 1, 0, 0));
        DOCUMENT.endSection();
    }

    private static void totalOnADay() {
        DOCUMENT.quote("The TOTAL of a quantity, boards of a maker, on a day");
        CostSteps x = Samples.withPart();
        x.board(7, 1, 3);
        x.price(0, 5, 1, 4);
        x.tooling(100);
        x.currency(5, 10, 2, 1);
        CHECK.due("of maker 0, before the rate's day", 110 + 40, x.total(10, 0, 9));
        CHECK.due("of maker 0, on the rate's day", 110 + 80, x.total(10, 0, 10));
        CHECK.due("of maker 7, on the rate's day", 130 + 80, x.total(10, 7, 10));
        CHECK.due("of none", 100, x.total(0, 7, 10));
        CHECK.due("of one", 111, x.total(1, 7, 10));
        CHECK.due("of the most", 100 + 11 * MILLION, x.total(MILLION, 7, 10));
        CHECK.due("on the least day", 107, x.total(1, 7, Long.MIN_VALUE));
        CHECK.due("on the greatest day", 111, x.total(1, 7, Long.MAX_VALUE));
    }

    private static void totalThatCannotBe() {
        DOCUMENT.quote("NONE, when it can't be");
        CostSteps x = Samples.withPart();
        CHECK.due("a part that nobody makes", -1, x.total(1, 0, 0));
        CHECK.due("none of it", 0, x.total(0, 0, 0));
        x.stock(0, 5);
        CHECK.due("as many as the stock has", 5, x.total(5, 0, 0));
        CHECK.due("one more", -1, x.total(6, 0, 0));
        x.price(0, 0, 1, 1);
        CHECK.due("boards of a maker that makes none", -1, x.total(1, 1, 0));
        CHECK.due("none of that maker", 0, x.total(0, 1, 0));
        x.yieldOf(1, 1_000);
        x.yieldOf(1, 1_000);
        CHECK.due("a billion boards, a billion pieces less the stock", 2 * BILLION - 5, x.total(1_000, 0, 0));
        CHECK.due("too many boards", -1, x.total(1_001, 0, 0));
        x.uses(0, 2);
        CHECK.due("too many pieces", -1, x.total(1_000, 0, 0));
    }

    private static void totalIsRemembered() {
        DOCUMENT.quote("changed() and row() tell of it then");
        CostSteps x = Samples.withPart();
        x.price(0, 3, 1, 4);
        CHECK.due("a total", 2 + 8, x.total(2, 0, 0));
        CHECK.due("row tells of it", 2, x.row(3, 0));
        CHECK.due("changed tells of it", 1, x.changed(0));
        CHECK.due("the next", 3 + 12, x.total(3, 0, 0));
        CHECK.due("row tells of the next", 3, x.row(3, 0));
        CHECK.due("the next again", 3 + 12, x.total(3, 0, 0));
        CHECK.due("changed tells of it again", -1, x.changed(0));
        String before = Probe.rows(Samples.rich());
        CostSteps y = Samples.rich();
        y.uses(0, 1_000);
        y.stock(3, 0);
        CHECK.due("a total that can't be", -1, y.total(MILLION, 0, 0));
        CHECK.same("rows after it", before, Probe.rows(y));
        CHECK.noIndex("a total that throws", () -> y.total(1, 8, 0));
        CHECK.noArgument("another that throws", () -> y.total(-1, 0, 0));
        CHECK.same("rows after those", before, Probe.rows(y));
    }

    private static void promise13() {
        DOCUMENT.section("Promise 13");
        bestIsTheLeast();
        bestWithFewerSuppliers();
        DOCUMENT.quote("then the lower one");
        CostSteps x = new CostSteps();
        x.board(7, 1, 10);
        x.board(5, 2, 5);
        CHECK.due("the lower of two", 5, x.best(1, 0));
        x.board(0, 1, 10);
        CHECK.due("the lowest of three", 0, x.best(1, 0));
        CHECK.due("none started: all are the same", 0, x.best(0, 0));
        CHECK.due("none started with nothing told", 0, new CostSteps().best(0, 0));
        bestWhereThereIsNone();
        DOCUMENT.quote("IllegalArgumentException, when it is no quantity");
        EDGES.number("quantity", 0, MILLION, (y, quantity) -> y.best(quantity, 0));
        CostSteps empty = new CostSteps();
        CHECK.noArgument("no quantity where nothing can be", () -> empty.best(-1, 0));
        EDGES.changesNothing("best()", Samples.rich(), Samples.rich(), y -> y.best(3, 0));
        DOCUMENT.endSection();
    }

    private static void bestIsTheLeast() {
        DOCUMENT.quote("The maker with the least TOTAL");
        CostSteps x = new CostSteps();
        x.board(7, 1, 10);
        CHECK.due("the only maker", 7, x.best(1, 0));
        x.board(3, 1, 20);
        x.board(3, 100, 5);
        CHECK.due("the least for a few", 7, x.best(49, 0));
        CHECK.due("the same", 3, x.best(50, 0));
        CHECK.due("the least for many", 3, x.best(51, 0));
        CHECK.due("the least for the most", 3, x.best(MILLION, 0));
        x.currency(3, 9, 2, 1);
        CHECK.due("before the rate's day", 3, x.best(51, 8));
        CHECK.due("on the rate's day", 7, x.best(51, 9));
        CHECK.due("on the least day", 3, x.best(51, Long.MIN_VALUE));
        CHECK.due("on the greatest day", 7, x.best(51, Long.MAX_VALUE));
        CostSteps y = new CostSteps();
        for (int maker = 0; maker < 8; maker++) {
            y.board(maker, 1, 10 - maker);
            CHECK.due("each maker in turn", maker, y.best(1, 0));
        }
    }

    private static void bestWithFewerSuppliers() {
        DOCUMENT.quote("of the same that with the fewer suppliers (on that day)");
        CostSteps x = Samples.withParts(2);
        x.uses(0, 1);
        x.uses(1, 1);
        x.price(0, 4, 1, 5);
        x.price(1, 5, 1, 5);
        x.board(2, 1, 10);
        x.board(3, 1, 10);
        CHECK.due("as many suppliers, the lower", 2, x.best(1, 0));
        x.board(5, 1, 10);
        CHECK.due("the fewer suppliers before the lower", 5, x.best(1, 0));
        x.board(4, 1, 10);
        CHECK.due("as few suppliers, the lower", 4, x.best(1, 0));
        x.price(0, 2, 1, 6);
        x.currency(4, 10, 3, 1);
        CHECK.due("before the rate's day", 4, x.best(1, 9));
        // On day 10 part 0 comes of maker 2, so boards of 2 have as few suppliers as boards of 5.
        CHECK.due("on the rate's day", 2, x.best(1, 10));
        CHECK.due("suppliers of the day behind all days are others", 3, x.suppliers(1, 4));
        x.board(3, 1, 9);
        CHECK.due("the least before the fewer suppliers", 3, x.best(1, 9));
    }

    private static void bestWhereThereIsNone() {
        DOCUMENT.quote("NONE, when there is none");
        CostSteps x = new CostSteps();
        CHECK.due("nobody makes boards", -1, x.best(1, 0));
        x.board(7, 1, 10);
        CHECK.due("the last maker does", 7, x.best(1, 0));
        x.part();
        x.uses(0, 1);
        CHECK.due("a part that nobody makes", -1, x.best(1, 0));
        x.stock(0, 1);
        CHECK.due("from the stock", 7, x.best(1, 0));
        CHECK.due("one more than the stock has", -1, x.best(2, 0));
        x.uses(0, 0);
        x.yieldOf(1, 1_000);
        CHECK.due("a billion boards", 7, x.best(MILLION, 0));
        x.yieldOf(999, 1_000);
        CHECK.due("more than a billion boards", -1, x.best(MILLION, 0));
    }

    private static void promise14() {
        DOCUMENT.section("Promise 14");
        eachAndTheRest();
        DOCUMENT.quote("NONE, when it can't be");
        CostSteps x = Samples.withPart();
        CHECK.due("cents of each of a part that nobody makes", -1, x.each(1, 0, 0, 0));
        CHECK.due("the rest", -1, x.each(1, 0, 0, 1));
        x.uses(0, 0);
        CHECK.due("cents of each of a maker that makes none", -1, x.each(1, 1, 0, 0));
        CHECK.due("of the maker that does", 1, x.each(1, 0, 0, 0));
        DOCUMENT.quote("IndexOutOfBoundsException, when there is no such maker");
        EDGES.index("maker", 8, (y, maker) -> y.each(1, maker, 0, 0));
        EDGES.noIndex("maker 8 and quantity 0", y -> y.each(0, 8, 0, 0));
        DOCUMENT.quote("or part2");
        EDGES.index("part2", 2, (y, part2) -> y.each(1, 0, 0, part2));
        EDGES.noIndex("part2 2 and no quantity", y -> y.each(-1, 0, 0, 2));
        CHECK.noIndex("part2 2 where it can't be", () -> x.each(1, 1, 0, 2));
        DOCUMENT.quote("IllegalArgumentException, when it is no quantity");
        EDGES.tooSmall("quantity", 0, (y, quantity) -> y.each(quantity, 0, 0, 1));
        EDGES.tooLarge("quantity", MILLION, (y, quantity) -> y.each(quantity, 0, 0, 0));
        CHECK.due("the most", 1, x.each(MILLION, 0, 0, 0));
        DOCUMENT.quote("or none");
        EDGES.noArgument("cents of each of none", y -> y.each(0, 0, 0, 0));
        EDGES.noArgument("the rest of none", y -> y.each(0, 0, 0, 1));
        CHECK.noArgument("none where it can't be", () -> x.each(0, 1, 0, 0));
        CHECK.due("one", 0, x.each(1, 0, 0, 1));
        EDGES.changesNothing("each()", Samples.rich(), Samples.rich(), y -> y.each(3, 0, 0, 0));
        DOCUMENT.endSection();
    }

    private static void eachAndTheRest() {
        DOCUMENT.quote("The TOTAL by the quantity: cents of each (part2 0), the rest (1)");
        CostSteps x = new CostSteps();
        x.board(1, 1, 10);
        x.tooling(7);
        CHECK.due("one board", 17, x.each(1, 1, 0, 0));
        CHECK.due("one board has no rest", 0, x.each(1, 1, 0, 1));
        CHECK.due("cents of each of three", 12, x.each(3, 1, 0, 0));
        CHECK.due("the rest of three", 1, x.each(3, 1, 0, 1));
        CHECK.due("cents of each of seven", 11, x.each(7, 1, 0, 0));
        CHECK.due("seven have no rest", 0, x.each(7, 1, 0, 1));
        CHECK.due("cents of each of eight", 10, x.each(8, 1, 0, 0));
        CHECK.due("the rest of eight, one less than eight", 7, x.each(8, 1, 0, 1));
        x.yieldOf(1, 2);
        CHECK.due("by the quantity, not by the started", 22, x.each(3, 1, 0, 0));
        CHECK.due("the rest then", 1, x.each(3, 1, 0, 1));
        x.currency(1, 5, 1, 2);
        CHECK.due("before a rate's day", 22, x.each(3, 1, 4, 0));
        CHECK.due("on a rate's day", 12, x.each(3, 1, 5, 0));
        x.board(1, 1, 1);
        x.currency(1, 5, 1, 1_000);
        CHECK.due("less than a cent of each", 0, x.each(MILLION, 1, 5, 0));
        CHECK.due("all of it is the rest", 2_007, x.each(MILLION, 1, 5, 1));
    }

    private static void promise15() {
        DOCUMENT.section("Promise 15");
        suppliersAreDifferent();
        suppliersBehindAllDays();
        DOCUMENT.quote("NONE, when the TOTAL can't be");
        CostSteps x = Samples.withPart();
        CHECK.due("a part that nobody makes", -1, x.suppliers(1, 0));
        x.price(0, 0, 1, 1);
        CHECK.due("a part that somebody makes", 1, x.suppliers(1, 0));
        CHECK.due("boards of a maker that makes none", -1, x.suppliers(1, 1));
        x.yieldOf(1, 1_000);
        CHECK.due("a billion boards", 1, x.suppliers(MILLION, 0));
        x.yieldOf(999, 1_000);
        CHECK.due("more than a billion boards", -1, x.suppliers(MILLION, 0));
        DOCUMENT.quote("0 when nothing is BOUGHT");
        CHECK.due("none", 0, x.suppliers(0, 0));
        CHECK.due("none of a maker that makes none", 0, x.suppliers(0, 7));
        CHECK.due("none with nothing told", 0, new CostSteps().suppliers(0, 0));
        CHECK.due("a board alone is bought", 1, Samples.withBoards().suppliers(1, 0));
        DOCUMENT.quote("Throws as total() does");
        EDGES.index("maker", 8, (y, maker) -> y.suppliers(1, maker));
        EDGES.number("quantity", 0, MILLION, (y, quantity) -> y.suppliers(quantity, 0));
        EDGES.noIndex("maker -1 and no quantity", y -> y.suppliers(-1, -1));
        EDGES.changesNothing("suppliers()", Samples.rich(), Samples.rich(), y -> y.suppliers(3, 0));
        DOCUMENT.endSection();
    }

    private static void suppliersAreDifferent() {
        DOCUMENT.quote("Of how many different makers boards and parts are BOUGHT");
        CostSteps x = Samples.withParts(8);
        x.board(0, 1, 1);
        for (int part = 0; part < 8; part++) {
            x.uses(part, 1);
            x.price(part, 0, 1, 10);
        }
        CHECK.due("one of all", 1, x.suppliers(1, 0));
        for (int part = 1; part < 8; part++) {
            x.price(part, part, 1, 5);
            CHECK.due("makers 0 to " + part, 1 + part, x.suppliers(1, 0));
        }
        x.price(0, 7, 1, 5);
        CHECK.due("the boards' maker alone of boards", 8, x.suppliers(1, 0));
        x.board(7, 1, 1);
        CHECK.due("boards of a maker of parts", 7, x.suppliers(1, 7));
        x.stock(1, 1);
        CHECK.due("what the stock has is not bought", 6, x.suppliers(1, 7));
        CHECK.due("more than the stock has", 7, x.suppliers(2, 7));
        x.uses(2, 0);
        CHECK.due("what is not used is not bought", 6, x.suppliers(2, 7));
    }

    private static void suppliersBehindAllDays() {
        DOCUMENT.quote("with the RATES of the day behind all days");
        CostSteps x = Samples.withPart();
        x.price(0, 0, 1, 5);
        x.price(0, 7, 1, 4);
        CHECK.due("without rates", 2, x.suppliers(1, 0));
        x.currency(7, 100, 2, 1);
        CHECK.due("a rate of a day to come", 1, x.suppliers(1, 0));
        x.currency(7, 200, 1, 1);
        CHECK.due("a rate of a later day", 2, x.suppliers(1, 0));
        x.currency(7, Long.MAX_VALUE, 2, 1);
        CHECK.due("a rate of the greatest day", 1, x.suppliers(1, 0));
        x.currency(7, Long.MAX_VALUE - 1, 1, 1);
        CHECK.due("the day before that does not count", 1, x.suppliers(1, 0));
        x.currency(7, Long.MIN_VALUE, 1, 1);
        CHECK.due("nor the least day", 1, x.suppliers(1, 0));
    }

    private static void promise17() {
        DOCUMENT.section("Promise 17");
        changedRising();
        changedOfTotalsThatCouldBe();
        DOCUMENT.quote("(0 where there was none)");
        CostSteps x = Samples.withPart();
        x.price(0, 0, 1, 5);
        x.tooling(9);
        x.total(2, 0, 0);
        CHECK.due("the first total: tooling", 0, x.changed(0));
        CHECK.due("the first total: boards", 1, x.changed(1));
        CHECK.due("the first total: the part, assembly being 0", 3, x.changed(2));
        CHECK.due("the first total: no more", -1, x.changed(3));
        CostSteps empty = new CostSteps();
        empty.total(0, 0, 0);
        CHECK.due("a first total of 0", -1, empty.changed(0));
        changedByNewParts();
        changedNotSoMany();
        DOCUMENT.quote("(or k is below 0)");
        CHECK.due("k -1", -1, x.changed(-1));
        CHECK.due("the least k", -1, x.changed(Integer.MIN_VALUE));
        CHECK.due("k -1 without a total", -1, new CostSteps().changed(-1));
        CHECK.due("what it was", 0, x.changed(0));
        DOCUMENT.endSection();
    }

    private static void changedRising() {
        DOCUMENT.quote("The k-th ROW, rising, whose cost in the latest total() that could be "
                + "was another one than in the one before that");
        CostSteps x = Samples.withPart();
        x.price(0, 0, 1, 5);
        x.tooling(9);
        x.total(2, 0, 0);
        x.total(2, 0, 0);
        CHECK.due("the same again", -1, x.changed(0));
        x.placed(1, 1);
        x.assembly(1, 1);
        x.tooling(8);
        x.total(2, 0, 0);
        CHECK.due("tooling", 0, x.changed(0));
        CHECK.due("assembly", 2, x.changed(1));
        CHECK.due("no more", -1, x.changed(2));
        CHECK.due("tooling still", 0, x.changed(0));
        x.total(0, 0, 0);
        CHECK.due("boards cost nothing now", 1, x.changed(0));
        CHECK.due("and assembly", 2, x.changed(1));
        CHECK.due("and the part", 3, x.changed(2));
        CHECK.due("and no more", -1, x.changed(3));
        x.price(0, 1, 1, 4);
        x.price(0, 0, 1, 6);
        x.total(2, 0, 0);
        x.price(0, 0, 2, 4);
        x.total(2, 0, 0);
        CHECK.due("another maker at the same cost is no change", -1, x.changed(0));
        CHECK.due("though it is another maker", 0, x.row(3, 1));
    }

    private static void changedOfTotalsThatCouldBe() {
        CostSteps x = Samples.withPart();
        x.price(0, 0, 1, 5);
        x.total(2, 0, 0);
        x.tooling(10);
        CHECK.due("a total that can't be", -1, x.total(2, 1, 0));
        CHECK.due("it is passed over: boards", 1, x.changed(0));
        CHECK.due("it is passed over: no more than before", -1, x.changed(2));
        x.total(2, 0, 0);
        CHECK.due("against the one that could be: tooling", 0, x.changed(0));
        CHECK.due("against the one that could be: no more", -1, x.changed(1));
        x.best(7, 0);
        x.each(7, 0, 0, 0);
        x.suppliers(7, 0);
        CHECK.due("no other call counts", -1, x.changed(1));
        CHECK.due("tooling still", 0, x.changed(0));
    }

    private static void changedByNewParts() {
        CostSteps x = Samples.withPart();
        x.price(0, 0, 1, 5);
        x.total(2, 0, 0);
        x.total(2, 0, 0);
        x.part();
        x.uses(1, 1);
        x.price(1, 0, 1, 5);
        CHECK.due("a part without a total since", -1, x.changed(0));
        x.total(2, 0, 0);
        CHECK.due("a part that was not there", 4, x.changed(0));
        CHECK.due("that part alone", -1, x.changed(1));
        x.part();
        x.total(3, 0, 0);
        CHECK.due("a new part that is not used is no change", 4, x.changed(2));
        CHECK.due("and none behind it", -1, x.changed(3));
    }

    private static void changedNotSoMany() {
        DOCUMENT.quote("NONE, when there are not so many");
        CHECK.due("without a total", -1, new CostSteps().changed(0));
        CostSteps none = new CostSteps();
        none.total(1, 0, 0);
        CHECK.due("without a total that could be", -1, none.changed(0));
        CostSteps x = Samples.withParts(30);
        x.board(0, 1, 1);
        x.tooling(1);
        x.assembly(0, 1);
        x.placed(0, 1);
        for (int part = 0; part < 30; part++) {
            x.uses(part, 1);
            x.price(part, 0, 1, 1);
        }
        x.total(1, 0, 0);
        for (int k = 0; k < 33; k++) {
            CHECK.due("all 33 rows: the k-th", k, x.changed(k));
        }
        for (int k : new int[] {33, 34, 64, 65_536, Integer.MAX_VALUE}) {
            CHECK.due("k " + k, -1, x.changed(k));
        }
        x.uses(29, 2);
        x.total(1, 0, 0);
        CHECK.due("the last row alone", 32, x.changed(0));
        CHECK.due("none behind it", -1, x.changed(1));
    }

    private static void promise18() {
        DOCUMENT.section("Promise 18");
        DOCUMENT.quote("Of a ROW of the latest total() that could be");
        CostSteps x = Samples.withPart();
        x.price(0, 5, 1, 7);
        x.total(4, 0, 0);
        CHECK.due("a total", 4, x.row(3, 0));
        CHECK.due("a total that can't be", -1, x.total(5, 7, 0));
        CHECK.due("the one that could be", 4, x.row(3, 0));
        x.best(6, 0);
        x.each(6, 0, 0, 0);
        x.suppliers(6, 0);
        CHECK.due("no other call counts", 4, x.row(3, 0));
        x.uses(0, 2);
        CHECK.due("what is told since does not count", 4, x.row(3, 0));
        x.total(5, 0, 0);
        CHECK.due("the next total", 10, x.row(3, 0));
        rowsOfATotal();
        DOCUMENT.quote("IndexOutOfBoundsException, when there is no such ROW");
        EDGES.index("row", 3 + Samples.RICH_PARTS, (y, k) -> y.row(k, 0));
        noRowOfANewPart();
        DOCUMENT.quote("(or no such total())");
        rowWithoutATotal();
        DOCUMENT.quote("or what");
        EDGES.index("what", 3, (y, what) -> y.row(1, what));
        EDGES.index("what of a row without anything", 3, (y, what) -> y.row(0, what));
        EDGES.noIndex("row and what", y -> y.row(99, 99));
        DOCUMENT.endSection();
    }

    private static void rowsOfATotal() {
        CostSteps x = Samples.withPart();
        x.board(2, 10, 3);
        x.price(0, 5, 1, 7);
        x.part();
        x.uses(1, 1);
        x.price(0, 7, BILLION, 1);
        x.alternate(1, 0);
        x.part();
        x.tooling(5);
        x.assembly(0, 5);
        x.placed(0, 5);
        x.total(4, 2, 0);
        DOCUMENT.quote("how many pieces were BOUGHT (what 0), of which maker (1), which part (2;");
        rowIsDue("part 0", x, 3, 4, 5, 0);
        rowIsDue("part 1, for which part 0 stands in", x, 4, 4, 5, 0);
        DOCUMENT.quote("NONE for boards)");
        rowIsDue("boards", x, 1, 10, 2, -1);
        DOCUMENT.quote("0, NONE, NONE, when nothing was");
        rowIsDue("tooling", x, 0, 0, -1, -1);
        rowIsDue("assembly", x, 2, 0, -1, -1);
        rowIsDue("a part not used", x, 5, 0, -1, -1);
        x.stock(0, 4);
        x.total(4, 2, 0);
        rowIsDue("a part from the stock", x, 3, 0, -1, -1);
        rowIsDue("a part without stock", x, 4, 4, 5, 0);
        x.total(0, 2, 0);
        everyRowIsEmpty("none started", x);
        for (int i = 0; i < 5; i++) {
            x.total(4 + i, 2, 0);
            x.total(0, 2, 0);
            everyRowIsEmpty("none started, after many totals", x);
        }
        mostPiecesOfARow();
    }

    private static void everyRowIsEmpty(String of, CostSteps x) {
        for (int k = 0; k < 6; k++) {
            rowIsDue(of, x, k, 0, -1, -1);
        }
    }

    private static void mostPiecesOfARow() {
        DOCUMENT.quote("how many pieces were BOUGHT (what 0)");
        CostSteps x = Samples.withPart();
        x.price(0, 7, BILLION, 1);
        x.total(1, 0, 0);
        rowIsDue("the most pieces", x, 3, (int) BILLION, 7, 0);
        rowIsDue("the fewest pieces", x, 1, 1, 0, -1);
    }

    private static void rowIsDue(String of, CostSteps x, int k, int pieces, int maker, int part) {
        CHECK.due(of + ": row(" + k + ", 0)", pieces, x.row(k, 0));
        CHECK.due(of + ": row(" + k + ", 1)", maker, x.row(k, 1));
        CHECK.due(of + ": row(" + k + ", 2)", part, x.row(k, 2));
    }

    /** A total has a row for each part that there was, so a part made since has none in it. */
    private static void noRowOfANewPart() {
        CostSteps x = Samples.withPart();
        x.stock(0, 9);
        x.total(1, 0, 0);
        x.part();
        CHECK.noIndex("a part made since the total", () -> x.row(4, 0));
        x.total(1, 7, 0);
        CHECK.noIndex("a part made since, and a total that can't be", () -> x.row(4, 0));
        x.total(1, 0, 0);
        CHECK.due("that part in the next total", 0, x.row(4, 0));
        CostSteps without = new CostSteps();
        without.total(0, 0, 0);
        CHECK.due("without parts, the last row", 0, without.row(2, 0));
        CHECK.noIndex("without parts, row 3", () -> without.row(3, 0));
        CostSteps full = Samples.full();
        // Eight yields make 18 boards of 6, and each uses two pieces.
        CHECK.due("with thirty parts, the last row", 36, full.row(32, 0));
        CHECK.noIndex("with thirty parts, row 33", () -> full.row(33, 0));
    }

    private static void rowWithoutATotal() {
        CostSteps x = Samples.withPart();
        CHECK.noIndex("no total yet", () -> x.row(0, 0));
        x.total(1, 0, 0);
        CHECK.noIndex("no total that could be", () -> x.row(0, 0));
        CHECK.noIndex("no total that could be, the part's row", () -> x.row(3, 0));
        x.price(0, 0, 1, 1);
        x.best(1, 0);
        x.each(1, 0, 0, 0);
        x.suppliers(1, 0);
        CHECK.noIndex("no other call counts", () -> x.row(0, 0));
        CHECK.noIndex("no total() and no such what", () -> x.row(0, 3));
        x.total(0, 0, 0);
        CHECK.due("a total of none counts", 0, x.row(0, 0));
    }
}
