/** The limits under "Terms" and "What it is", sentence by sentence. */
final class TermsTest {
    private static final long BILLION = 1_000_000_000L;
    private static final long MILLION = 1_000_000L;
    private static final Check CHECK = new Check();
    private static final Document DOCUMENT = new Document(CHECK);
    private static final Edges EDGES = new Edges(CHECK);

    public static void main(String[] args) {
        DOCUMENT.section("What it is");
        callsOfAnObject();
        DOCUMENT.section("Terms");
        parts();
        makers();
        stepsOfAPart();
        stepsOfBoards();
        fromOfAStep();
        centsOfAStep();
        rates();
        rateOfADay();
        daysOfAMaker();
        rateWithout();
        costOfPieces();
        boughtForTheLeast();
        piecesOfAStep();
        theLowestPart();
        theLowestMaker();
        theLeastPieces();
        quantities();
        yields();
        orderOfYields();
        roundingOfYields();
        tooManyStarted();
        tooling();
        boards();
        kinds();
        costOfAssembly();
        lessTheStock();
        tooManyPieces();
        anyMakerAndAlternates();
        nothingLeft();
        sumOfRows();
        theDearestTotal();
        noneStarted();
        cannotBeBought();
        none();
        DOCUMENT.endSection();
        CHECK.end();
    }

    private static void callsOfAnObject() {
        DOCUMENT.quote("An object is used for at most 512 calls after it has been made; what later calls answer is free.");
        CostSteps x = new CostSteps();
        for (int part = 0; part < 30; part++) {
            x.part();
            x.uses(part, 1);
            for (int maker = 0; maker < 8; maker++) {
                x.price(part, maker, 1, 10);
            }
        }
        x.board(0, 1, 1);
        int calls = 30 * 10 + 1;
        while (calls < 508) {
            x.total(calls, 0, 0);
            calls++;
        }
        CHECK.due("the 509th call, a total", 2 * 301, x.total(2, 0, 0));
        CHECK.due("the 510th call, a row of it", 2, x.row(32, 0));
        CHECK.due("the 511th call, what it changed", 32, x.changed(30));
        CHECK.due("the 512th call, another total", MILLION * 301, x.total(MILLION, 0, 0));
    }

    private static void parts() {
        DOCUMENT.quote("PARTS are numbered from 0, at most 30");
        CostSteps x = Samples.withBoards();
        for (int part = 0; part < 30; part++) {
            CHECK.due("part()", part, x.part());
            x.uses(part, 1);
            x.price(part, 0, 1, 100 + part);
        }
        CHECK.due("a part beyond the thirtieth", -1, x.part());
        CHECK.due("a total with thirty parts", 1 + 30 * 100 + 29 * 15, x.total(1, 0, 0));
        CHECK.due("the row of the last part", 29, x.row(32, 2));
        CHECK.noIndex("a row of part 30", () -> x.row(33, 2));
    }

    private static void makers() {
        DOCUMENT.quote("MAKERS 0 .. 7");
        CostSteps x = new CostSteps();
        for (int maker = 0; maker < 8; maker++) {
            CHECK.yes("board of maker " + maker, x.board(maker, 1, 10 + maker));
        }
        for (int maker = 0; maker < 8; maker++) {
            CHECK.due("total of maker " + maker, 10 + maker, x.total(1, maker, 0));
        }
        EDGES.index("price: maker", 8, (y, maker) -> y.price(0, maker, 2, 1));
        EDGES.index("board: maker", 8, (y, maker) -> y.board(maker, 2, 1));
        EDGES.index("currency: maker", 8, (y, maker) -> y.currency(maker, 1, 1, 9));
        EDGES.index("total: maker", 8, (y, maker) -> y.total(1, maker, 0));
        EDGES.index("each: maker", 8, (y, maker) -> y.each(1, maker, 0, 0));
        EDGES.index("suppliers: maker", 8, (y, maker) -> y.suppliers(1, maker));
    }

    private static void stepsOfAPart() {
        DOCUMENT.quote("A maker has up to 6 STEPS for a part");
        CostSteps x = Samples.withPart();
        x.part();
        // Told in falling order; each costs less a piece than the one before it, so each has its own range.
        long[] froms = {100_000, 10_000, 1_000, 100, 10, 1};
        long[] cents = {5, 10, 20, 40, 80, 160};
        for (int i = 0; i < 6; i++) {
            CHECK.yes("step from " + froms[i], x.price(0, 3, froms[i], cents[i]));
        }
        CHECK.no("a seventh step", x.price(0, 3, 2, 1));
        CHECK.no("the seventh step again", x.price(0, 3, 2, 1));
        for (int i = 0; i < 6; i++) {
            CHECK.due("total of " + froms[i], froms[i] * (1 + cents[i]), x.total(froms[i], 0, 0));
        }
        CHECK.yes("a first step of the next maker", x.price(0, 4, BILLION, 1));
        CHECK.yes("a first step of the maker before", x.price(0, 2, BILLION, 1));
        CHECK.yes("a first step of the next part", x.price(1, 3, BILLION, 1));
        CHECK.due("total of 10 as before", 10 * 81, x.total(10, 0, 0));
    }

    private static void stepsOfBoards() {
        DOCUMENT.quote("and up to 6 for boards");
        CostSteps x = Samples.withParts(30);
        long[] froms = {1, 1_000, 10, 100_000, 10_000, 100};
        long[] cents = {160, 20, 80, 5, 10, 40};
        for (int i = 0; i < 6; i++) {
            CHECK.yes("board from " + froms[i], x.board(0, froms[i], cents[i]));
            CHECK.yes("the last part's step " + i, x.price(29, 7, froms[i], 1));
        }
        CHECK.no("a seventh step", x.board(0, 2, 1));
        CHECK.no("a seventh step of the last part", x.price(29, 7, 2, 1));
        for (int i = 0; i < 6; i++) {
            CHECK.due("total of " + froms[i], froms[i] * cents[i], x.total(froms[i], 0, 0));
        }
        CHECK.yes("a first step of the next maker", x.board(1, 2, 1));
        CHECK.yes("a first step of the last maker", x.board(7, 2, 1));
        CHECK.due("the next maker's step is its own", 2, x.total(1, 1, 0));
    }

    private static void fromOfAStep() {
        DOCUMENT.quote("from so many pieces on (1 .. 1,000,000,000)");
        EDGES.number("price: from", 1, BILLION, (y, from) -> y.price(0, 0, from, 1));
        EDGES.number("board: from", 1, BILLION, (y, from) -> y.board(0, from, 1));
        CostSteps x = Samples.withPart();
        x.price(0, 0, BILLION, 3);
        CHECK.due("a step from a billion on", 1 + 3 * BILLION, x.total(1, 0, 0));
        CHECK.due("its pieces", BILLION, x.row(3, 0));
        x.price(0, 0, 1, 7);
        CHECK.due("a step from one on", 1 + 7, x.total(1, 0, 0));
        CHECK.due("one piece", 1, x.row(3, 0));
    }

    private static void centsOfAStep() {
        DOCUMENT.quote("a piece costs so many cents (1 .. 100,000) of its currency");
        EDGES.number("price: cents", 1, 100_000, (y, cents) -> y.price(0, 0, 2, cents));
        EDGES.number("board: cents", 1, 100_000, (y, cents) -> y.board(0, 2, cents));
        CostSteps x = Samples.withPart();
        x.price(0, 4, 1, 100_000);
        x.board(5, 1, 100_000);
        CHECK.due("the highest cents", 3 * 200_000, x.total(3, 5, 0));
        x.price(0, 4, 1, 1);
        CHECK.due("the lowest cents", 3 * 100_001, x.total(3, 5, 0));
        x.currency(4, 0, 50, 1);
        CHECK.due("cents of the part's maker's currency", 3 * 100_050, x.total(3, 5, 0));
        x.currency(5, 0, 1, 50);
        CHECK.due("cents of the boards' maker's currency", 3 * 2_050, x.total(3, 5, 0));
    }

    private static void rates() {
        DOCUMENT.quote("A maker's RATE of a day is above / below (1 .. 1,000 each)");
        EDGES.number("currency: above", 1, 1_000, (y, above) -> y.currency(0, 1, above, 7));
        EDGES.number("currency: below", 1, 1_000, (y, below) -> y.currency(0, 1, 7, below));
        CostSteps x = Samples.withBoards();
        x.currency(0, 0, 1_000, 1);
        CHECK.due("the highest rate", 5_000, x.total(5, 0, 0));
        x.currency(0, 0, 1, 1_000);
        CHECK.due("the lowest rate", 5, x.total(5_000, 0, 0));
        x.currency(0, 0, 1_000, 1_000);
        CHECK.due("a rate of one", 5, x.total(5, 0, 0));
    }

    private static void rateOfADay() {
        DOCUMENT.quote("of the latest told day that is not behind it");
        CostSteps x = new CostSteps();
        x.board(2, 1, 10);
        x.currency(2, 20, 3, 1);
        x.currency(2, 10, 2, 1);
        x.currency(2, -5, 5, 1);
        CHECK.due("on the first told day", 50, x.total(1, 2, -5));
        CHECK.due("the day after it", 50, x.total(1, 2, -4));
        CHECK.due("the day before the second", 50, x.total(1, 2, 9));
        CHECK.due("on the second", 20, x.total(1, 2, 10));
        CHECK.due("the day before the last", 20, x.total(1, 2, 19));
        CHECK.due("on the last", 30, x.total(1, 2, 20));
        CHECK.due("on the greatest day", 30, x.total(1, 2, Long.MAX_VALUE));
        x.currency(2, 15, 6, 1);
        CHECK.due("a day between, told last", 60, x.total(1, 2, 19));
        CHECK.due("the latest day, not the last told", 30, x.total(1, 2, 21));
        x.currency(2, Long.MIN_VALUE, 7, 1);
        x.currency(2, Long.MAX_VALUE, 8, 1);
        CHECK.due("told of the least day, on it", 70, x.total(1, 2, Long.MIN_VALUE));
        CHECK.due("told of the least day, until the next", 70, x.total(1, 2, -6));
        CHECK.due("told of the greatest day, before it", 30, x.total(1, 2, Long.MAX_VALUE - 1));
        CHECK.due("told of the greatest day, on it", 80, x.total(1, 2, Long.MAX_VALUE));
        x.board(3, 1, 10);
        CHECK.due("another maker's days are its own", 10, x.total(1, 3, 20));
    }

    private static void daysOfAMaker() {
        DOCUMENT.quote("(at most 6 days a maker)");
        CostSteps x = Samples.withBoards();
        for (int day = 1; day <= 6; day++) {
            CHECK.yes("day " + day, x.currency(0, day, day, 1));
        }
        CHECK.no("a seventh day", x.currency(0, 7, 9, 1));
        CHECK.no("a seventh day before the others", x.currency(0, 0, 9, 1));
        CHECK.due("before the six", 1, x.total(1, 0, 0));
        for (int day = 1; day <= 6; day++) {
            CHECK.due("on day " + day, day, x.total(1, 0, day));
        }
        CHECK.due("behind the six", 6, x.total(1, 0, 7));
        CHECK.yes("a first day of the next maker", x.currency(1, 7, 9, 1));
        CHECK.yes("a first day of the last maker", x.currency(7, 7, 9, 1));
    }

    private static void rateWithout() {
        DOCUMENT.quote("1 / 1 without");
        CostSteps x = new CostSteps();
        x.board(7, 1, 10);
        CHECK.due("no day told", 10, x.total(1, 7, 0));
        CHECK.due("no day told, the least day", 10, x.total(1, 7, Long.MIN_VALUE));
        CHECK.due("no day told, the greatest day", 10, x.total(1, 7, Long.MAX_VALUE));
        x.currency(7, 5, 3, 1);
        CHECK.due("all told days are behind it", 10, x.total(1, 7, 4));
        CHECK.due("all told days are far behind it", 10, x.total(1, 7, Long.MIN_VALUE));
    }

    private static void costOfPieces() {
        DOCUMENT.quote("T pieces by a step cost T times cents times above, divided by below, rounded up: cents");
        CostSteps x = new CostSteps();
        x.board(0, 1, 1);
        x.currency(0, 0, 1, 3);
        CHECK.due("1 / 3, rounded up", 1, x.total(1, 0, 0));
        CHECK.due("2 / 3, rounded up", 1, x.total(2, 0, 0));
        CHECK.due("3 / 3, not rounded", 1, x.total(3, 0, 0));
        CHECK.due("4 / 3, rounded up", 2, x.total(4, 0, 0));
        CHECK.due("rounded once, not for each piece", 100, x.total(300, 0, 0));
        x.currency(0, 0, 999, 1_000);
        CHECK.due("999 / 1,000", 1, x.total(1, 0, 0));
        CHECK.due("1,000 * 999 / 1,000", 999, x.total(1_000, 0, 0));
        CHECK.due("1,001 * 999 / 1,000 is 999.999", 1_000, x.total(1_001, 0, 0));
        x.board(0, BILLION, 100_000);
        x.board(1, BILLION, 100_000);
        x.currency(1, 0, 1_000, 1);
        CHECK.due("the dearest that can be bought", 100_000L * 1_000L * BILLION, x.total(1, 1, 0));
        x.currency(1, 0, 999, 998);
        CHECK.due("the dearest that is rounded", 100_000L * 999L * BILLION / 998 + 1, x.total(1, 1, 0));
    }

    private static void boughtForTheLeast() {
        DOCUMENT.quote("N pieces are BOUGHT by the step with which they cost least");
        CostSteps x = Samples.withPart();
        x.price(0, 0, 1, 10);
        x.price(0, 0, 50, 4);
        CHECK.due("19 pieces by the first step", 19 + 190, x.total(19, 0, 0));
        CHECK.due("its pieces", 19, x.row(3, 0));
        CHECK.due("21 pieces: 50 cost less", 21 + 200, x.total(21, 0, 0));
        CHECK.due("its pieces", 50, x.row(3, 0));
        x.price(0, 0, 100, 9);
        CHECK.due("a dearer step further on is not taken", 200 + 800, x.total(200, 0, 0));
        x.price(0, 0, 60, 3);
        CHECK.due("of two steps further on the better", 40 + 180, x.total(40, 0, 0));
        x.board(0, 30, 2);
        CHECK.due("a dearer step of boards is not taken", 40 + 180, x.total(40, 0, 0));
    }

    private static void piecesOfAStep() {
        DOCUMENT.quote("T being N, or from, when that is more");
        CostSteps x = Samples.withPart();
        x.price(0, 0, 50, 4);
        x.board(1, 50, 6);
        CHECK.due("49 pieces", 10 * 50, x.total(49, 1, 0));
        CHECK.due("T of the part is from", 50, x.row(3, 0));
        CHECK.due("T of the boards is from", 50, x.row(1, 0));
        CHECK.due("50 pieces", 10 * 50, x.total(50, 1, 0));
        CHECK.due("T of the part is both", 50, x.row(3, 0));
        CHECK.due("T of the boards is both", 50, x.row(1, 0));
        CHECK.due("51 pieces", 10 * 51, x.total(51, 1, 0));
        CHECK.due("T of the part is N", 51, x.row(3, 0));
        CHECK.due("T of the boards is N", 51, x.row(1, 0));
        CHECK.due("one piece", 10 * 50, x.total(1, 1, 0));
        CHECK.due("T of one piece is from", 50, x.row(3, 0));
    }

    private static void theLowestPart() {
        DOCUMENT.quote("of the same cost that of the lowest part");
        CostSteps x = Samples.withParts(3);
        x.board(0, 1, 1);
        x.uses(1, 1);
        x.price(1, 1, 1, 10);
        x.price(2, 0, 1, 10);
        x.alternate(1, 2);
        x.total(10, 0, 0);
        CHECK.due("the part before a higher one of a lower maker", 1, x.row(4, 2));
        x.price(0, 7, 20, 5);
        x.alternate(1, 0);
        x.total(10, 0, 0);
        CHECK.due("a lower alternate before the part itself", 0, x.row(4, 2));
        CHECK.due("though of a higher maker", 7, x.row(4, 1));
        CHECK.due("and with more pieces", 20, x.row(4, 0));
        x.price(2, 0, 1, 9);
        x.total(10, 0, 0);
        CHECK.due("less cost before the lower part", 2, x.row(4, 2));
    }

    private static void theLowestMaker() {
        DOCUMENT.quote("then of the lowest maker");
        CostSteps x = Samples.withPart();
        x.price(0, 7, 1, 10);
        x.price(0, 6, 20, 5);
        x.total(10, 0, 0);
        CHECK.due("the lower maker before the fewer pieces", 6, x.row(3, 1));
        CHECK.due("with its pieces", 20, x.row(3, 0));
        x.price(0, 0, 1, 10);
        x.total(10, 0, 0);
        CHECK.due("the lowest of three", 0, x.row(3, 1));
        x.price(0, 7, 1, 9);
        x.total(10, 0, 0);
        CHECK.due("less cost before the lower maker", 7, x.row(3, 1));
    }

    private static void theLeastPieces() {
        DOCUMENT.quote("then that of the least T");
        CostSteps x = Samples.withPart();
        x.price(0, 3, 50, 2);
        x.price(0, 3, 1, 10);
        x.price(0, 3, 20, 5);
        x.total(10, 0, 0);
        CHECK.due("three steps of the same cost", 10, x.row(3, 0));
        x.price(0, 3, 1, 11);
        x.total(10, 0, 0);
        CHECK.due("two steps of the same cost", 20, x.row(3, 0));
        x.board(1, 50, 2);
        x.board(1, 1, 10);
        x.total(10, 1, 0);
        CHECK.due("boards likewise", 10, x.row(1, 0));
        x.currency(3, 0, 1, 1_000);
        x.total(1, 0, 0);
        CHECK.due("the same cost by rounding", 1, x.row(3, 0));
    }

    private static void quantities() {
        DOCUMENT.quote("Of QUANTITY boards (0 .. 1,000,000) as many are STARTED as needed");
        EDGES.number("total: quantity", 0, MILLION, (y, quantity) -> y.total(quantity, 0, 0));
        EDGES.number("best: quantity", 0, MILLION, (y, quantity) -> y.best(quantity, 0));
        EDGES.number("each: quantity", 1, MILLION, (y, quantity) -> y.each(quantity, 0, 0, 0));
        EDGES.number("suppliers: quantity", 0, MILLION, (y, quantity) -> y.suppliers(quantity, 0));
        CostSteps x = Samples.withBoards();
        CHECK.due("the most", MILLION, x.total(MILLION, 0, 0));
        CHECK.due("as many boards are bought", MILLION, x.row(1, 0));
        CHECK.due("one", 1, x.total(1, 0, 0));
        CHECK.due("none", 0, x.total(0, 0, 0));
    }

    private static void yields() {
        DOCUMENT.quote("each YIELD above / below (at most 8)");
        CostSteps x = Samples.withBoards();
        for (int i = 0; i < 8; i++) {
            CHECK.yes("yield " + i, x.yieldOf(1, 2));
            CHECK.due("boards for one", 2L << i, x.total(1, 0, 0));
        }
        CHECK.no("a ninth yield", x.yieldOf(1, 2));
        CHECK.due("boards for one as before", 256, x.total(1, 0, 0));
    }

    private static void orderOfYields() {
        DOCUMENT.quote("from the last told one to the first");
        CostSteps x = Samples.withBoards();
        x.yieldOf(2, 3);
        x.yieldOf(5, 7);
        // From the last: 3 * 7 / 5 up is 5, 5 * 3 / 2 up is 8; from the first it would be 5 and 7.
        CHECK.due("3 boards by 2 / 3, then 5 / 7", 8, x.total(3, 0, 0));
        CostSteps y = Samples.withBoards();
        y.yieldOf(5, 7);
        y.yieldOf(2, 3);
        CHECK.due("3 boards by 5 / 7, then 2 / 3", 7, y.total(3, 0, 0));
    }

    private static void roundingOfYields() {
        DOCUMENT.quote("makes of n boards n times below, divided by above, rounded up");
        CostSteps x = Samples.withBoards();
        x.yieldOf(2, 3);
        CHECK.due("4 * 3 / 2", 6, x.total(4, 0, 0));
        CHECK.due("5 * 3 / 2, rounded up", 8, x.total(5, 0, 0));
        CHECK.due("0 * 3 / 2", 0, x.total(0, 0, 0));
        CostSteps y = Samples.withBoards();
        y.yieldOf(999, 1_000);
        CHECK.due("1 * 1,000 / 999, rounded up", 2, y.total(1, 0, 0));
        CHECK.due("999 * 1,000 / 999", 1_000, y.total(999, 0, 0));
        CHECK.due("1,000 * 1,000 / 999, rounded up", 1_002, y.total(1_000, 0, 0));
        CostSteps z = Samples.withBoards();
        z.yieldOf(1_000, 1_000);
        z.yieldOf(1, 1);
        CHECK.due("yields without losses", 7, z.total(7, 0, 0));
    }

    private static void tooManyStarted() {
        DOCUMENT.quote("more than 1,000,000,000 can't be (also on the way)");
        CostSteps x = Samples.withBoards();
        x.yieldOf(1, 1_000);
        CHECK.due("just a billion", BILLION, x.total(MILLION, 0, 0));
        x.yieldOf(999, 1_000);
        CHECK.due("just a billion by two yields", BILLION, x.total(999_000, 0, 0));
        CHECK.due("the boards bought", BILLION, x.row(1, 0));
        CHECK.due("more than a billion", -1, x.total(999_001, 0, 0));
        CHECK.due("best of more than a billion", -1, x.best(999_001, 0));
        CHECK.due("each of more than a billion", -1, x.each(999_001, 0, 0, 0));
        CHECK.due("suppliers of more than a billion", -1, x.suppliers(999_001, 0));
        CHECK.due("the boards of what could be", BILLION, x.row(1, 0));
        CostSteps same = Samples.withBoards();
        same.yieldOf(1_000, 1_000);
        same.yieldOf(1, 1_000);
        CHECK.due("a billion on the way, and no more at the end", BILLION, same.total(MILLION, 0, 0));
        CostSteps y = Samples.withBoards();
        y.yieldOf(999, 1_000);
        y.yieldOf(1, 1_000);
        CHECK.due("a billion on the way, more at the end", -1, y.total(MILLION, 0, 0));
        y.yieldOf(1, 2);
        CHECK.due("more than a billion on the way", -1, y.total(MILLION, 0, 0));
        for (int i = 0; i < 5; i++) {
            y.yieldOf(1, 1_000);
        }
        CHECK.due("a million boards, far beyond a long", -1, y.total(MILLION, 0, 0));
        CHECK.due("one board, far beyond a long", -1, y.total(1, 0, 0));
        CHECK.due("best of one", -1, y.best(1, 0));
        CHECK.due("none", 0, y.total(0, 0, 0));
        wrapAroundOfYields();
    }

    /** One board makes 2 to the 32nd here, and then 2 to the 64th: cut to an int or a long that would be 0. */
    private static void wrapAroundOfYields() {
        CostSteps x = Samples.withBoards();
        for (int i = 0; i < 4; i++) {
            x.yieldOf(1, 256);
        }
        CHECK.due("one board by 256 to the fourth", -1, x.total(1, 0, 0));
        for (int i = 0; i < 4; i++) {
            x.yieldOf(1, 256);
        }
        CHECK.due("one board by 256 to the eighth", -1, x.total(1, 0, 0));
        CHECK.due("its suppliers", -1, x.suppliers(1, 0));
    }

    private static void tooling() {
        DOCUMENT.quote("ROWS are: 0 TOOLING (told cents, once)");
        CostSteps x = Samples.withBoards();
        x.tooling(700);
        x.yieldOf(1, 2);
        CHECK.due("with five boards, ten started", 710, x.total(5, 0, 0));
        CHECK.due("it is row 0", 0, x.changed(0));
        CHECK.due("with one board", 702, x.total(1, 0, 0));
        CHECK.due("it does not change with the quantity", 1, x.changed(0));
        CHECK.due("nothing is bought for it", 0, x.row(0, 0));
    }

    private static void boards() {
        DOCUMENT.quote("1 BOARDS: those STARTED, BOUGHT of the maker that is asked for");
        CostSteps x = new CostSteps();
        x.board(0, 1, 5);
        x.board(7, 1, 9);
        x.yieldOf(1, 3);
        CHECK.due("of the dearer maker", 6 * 9, x.total(2, 7, 0));
        CHECK.due("of which maker", 7, x.row(1, 1));
        CHECK.due("those started", 6, x.row(1, 0));
        CHECK.due("of the other", 6 * 5, x.total(2, 0, 0));
        CHECK.due("of a maker between, who makes none", -1, x.total(2, 3, 0));
    }

    private static void kinds() {
        DOCUMENT.quote("2 ASSEMBLY: for each kind of placing 0 .. 7");
        EDGES.index("assembly: kind", 8, (y, kind) -> y.assembly(kind, 1));
        EDGES.index("placed: kind", 8, (y, kind) -> y.placed(kind, 1));
        CostSteps x = Samples.withBoards();
        long due = 1;
        for (int kind = 0; kind < 8; kind++) {
            x.assembly(kind, 1_000L << kind);
            x.placed(kind, 1);
            due += 1L << kind;
            CHECK.due("kinds 0 to " + kind, due, x.total(1, 0, 0));
            CHECK.due("it is row 2", 2, x.changed(kind == 0 ? 1 : 0));
        }
    }

    private static void costOfAssembly() {
        DOCUMENT.quote("STARTED times how many a board has, times cents for a thousand, divided by 1,000, rounded up");
        CostSteps x = Samples.withBoards();
        x.placed(0, 1);
        x.assembly(0, 1);
        CHECK.due("1 / 1,000, rounded up", 1 + 1, x.total(1, 0, 0));
        CHECK.due("999 / 1,000, rounded up", 999 + 1, x.total(999, 0, 0));
        CHECK.due("1,000 / 1,000, not rounded", 1_000 + 1, x.total(1_000, 0, 0));
        CHECK.due("1,001 / 1,000, rounded up", 1_001 + 2, x.total(1_001, 0, 0));
        x.placed(7, 1);
        x.assembly(7, 1);
        CHECK.due("each kind is rounded by itself", 1 + 2, x.total(1, 0, 0));
        x.placed(7, 3);
        x.assembly(7, 400);
        x.yieldOf(1, 2);
        CHECK.due("those started: 4 * 3 * 400 / 1,000, rounded up", 4 + 1 + 5, x.total(2, 0, 0));
        CostSteps y = Samples.withBoards();
        y.yieldOf(1, 1_000);
        y.placed(3, 1_000);
        y.assembly(3, MILLION);
        CHECK.due("the dearest kind", BILLION + BILLION * MILLION, y.total(MILLION, 0, 0));
    }

    private static void lessTheStock() {
        DOCUMENT.quote("3 + p: part p: STARTED times what a board uses, less its stock");
        CostSteps x = Samples.withBoards();
        x.part();
        x.part();
        x.uses(1, 3);
        x.price(1, 2, 1, 10);
        x.stock(1, 4);
        x.stock(0, 100);
        x.yieldOf(1, 2);
        CHECK.due("4 started * 3 - 4", 4 + 80, x.total(2, 0, 0));
        CHECK.due("row 3 + 1", 8, x.row(4, 0));
        CHECK.due("its part", 1, x.row(4, 2));
        CHECK.due("a total takes nothing out of the stock", 4 + 80, x.total(2, 0, 0));
    }

    private static void tooManyPieces() {
        DOCUMENT.quote("what is left (at most 1,000,000,000, else it can't be)");
        CostSteps x = Samples.withPart();
        x.price(0, 0, 1, 1);
        x.uses(0, 1_000);
        CHECK.due("just a billion", MILLION + BILLION, x.total(MILLION, 0, 0));
        CHECK.due("its pieces", BILLION, x.row(3, 0));
        x.yieldOf(500, 501);
        CHECK.due("1,002,000 boards, two million pieces more", -1, x.total(MILLION, 0, 0));
        CHECK.due("best of them", -1, x.best(MILLION, 0));
        CHECK.due("each of them", -1, x.each(MILLION, 0, 0, 1));
        CHECK.due("suppliers of them", -1, x.suppliers(MILLION, 0));
        x.stock(0, 1_999_999);
        CHECK.due("one piece more than a billion is left", -1, x.total(MILLION, 0, 0));
        x.stock(0, 2_000_000);
        CHECK.due("a billion is left", 1_002_000 + BILLION, x.total(MILLION, 0, 0));
        CHECK.due("what is left is bought", BILLION, x.row(3, 0));
        x.stock(0, BILLION);
        CHECK.due("the most in stock", 1_002_000 + 2_000_000, x.total(MILLION, 0, 0));
        wrapAroundOfPieces();
    }

    /** 6,700,417 boards by 641 pieces are 2 to the 32nd and one: cut to an int that would be 1. */
    private static void wrapAroundOfPieces() {
        CostSteps x = Samples.withPart();
        x.price(0, 0, 1, 1);
        x.yieldOf(149, 1_000);
        CHECK.due("998,362 * 1,000 / 149, rounded up", 2 * 6_700_417, x.total(998_362, 0, 0));
        x.uses(0, 641);
        CHECK.due("2 to the 32nd pieces and one", -1, x.total(998_362, 0, 0));
        CostSteps y = Samples.withPart();
        y.price(0, 0, 1, 1);
        y.uses(0, 1_000);
        y.yieldOf(1, 1_000);
        CHECK.due("the most pieces, a thousand for each of a billion boards", -1, y.total(MILLION, 0, 0));
        y.stock(0, BILLION);
        CHECK.due("less the most in stock", -1, y.total(MILLION, 0, 0));
    }

    private static void anyMakerAndAlternates() {
        DOCUMENT.quote("is BOUGHT of any maker, of the part itself or of one of its alternates");
        CostSteps x = Samples.withPart();
        x.part();
        x.part();
        for (int maker = 0; maker < 8; maker++) {
            x.price(0, maker, 1, 100 - maker);
            CHECK.due("of maker " + maker, 1 + 100 - maker, x.total(1, 0, 0));
            CHECK.due("the row says so", maker, x.row(3, 1));
        }
        x.price(2, 5, 1, 40);
        CHECK.due("not of a part that is no alternate", 1 + 93, x.total(1, 0, 0));
        x.alternate(0, 2);
        CHECK.due("of an alternate", 1 + 40, x.total(1, 0, 0));
        CHECK.due("which part", 2, x.row(3, 2));
        x.alternate(0, 1);
        CHECK.due("an alternate that nobody makes", 1 + 40, x.total(1, 0, 0));
        x.price(1, 6, 1, 30);
        CHECK.due("of another alternate", 1 + 30, x.total(1, 0, 0));
        x.price(0, 7, 1, 20);
        CHECK.due("of the part itself", 1 + 20, x.total(1, 0, 0));
    }

    private static void nothingLeft() {
        DOCUMENT.quote("nothing, when nothing is left");
        CostSteps x = Samples.withPart();
        x.uses(0, 2);
        x.stock(0, 10);
        CHECK.due("less than the stock", 4, x.total(4, 0, 0));
        CHECK.due("just the stock", 5, x.total(5, 0, 0));
        CHECK.due("nothing is bought", 0, x.row(3, 0));
        CHECK.due("of nobody", -1, x.row(3, 1));
        CHECK.due("more than the stock, that nobody makes", -1, x.total(6, 0, 0));
        x.price(0, 1, 1, 7);
        CHECK.due("more than the stock", 6 + 14, x.total(6, 0, 0));
        x.stock(0, 11);
        CHECK.due("one more than the stock", 6 + 7, x.total(6, 0, 0));
        CHECK.due("one is bought", 1, x.row(3, 0));
        x.stock(0, BILLION);
        CHECK.due("the most in stock, far more than is used", 1, x.total(1, 0, 0));
        x.stock(0, 0);
        x.uses(0, 0);
        CHECK.due("a part that is not used", 6, x.total(6, 0, 0));
    }

    private static void sumOfRows() {
        DOCUMENT.quote("TOTAL is the sum of all ROWS");
        CostSteps x = Samples.withPart();
        x.part();
        x.uses(1, 2);
        x.price(0, 3, 1, 11);
        x.price(1, 4, 1, 13);
        x.tooling(1_000);
        x.assembly(0, 500);
        x.placed(0, 7);
        x.assembly(5, 2_000);
        x.placed(5, 1);
        x.yieldOf(1, 2);
        // Six boards: 1,000 tooling, 6 boards, 21 + 12 placings, 66 and 156 for parts.
        CHECK.due("all rows", 1_000 + 6 + 21 + 12 + 66 + 156, x.total(3, 0, 0));
    }

    private static void theDearestTotal() {
        CostSteps x = new CostSteps();
        x.tooling(BILLION);
        x.board(0, 1, 100_000);
        x.currency(0, 0, 1_000, 1);
        x.yieldOf(1, 1_000);
        for (int kind = 0; kind < 8; kind++) {
            x.assembly(kind, MILLION);
            x.placed(kind, 1_000);
        }
        for (int part = 0; part < 30; part++) {
            x.part();
            x.uses(part, 1);
            x.price(part, 0, 1, 100_000);
        }
        long bought = 100_000L * 1_000L * BILLION;
        long most = BILLION + bought + 8 * BILLION * MILLION + 30 * bought;
        CHECK.due("the dearest total", most, x.total(MILLION, 0, 0));
        CHECK.due("its last row's pieces", BILLION, x.row(32, 0));
        CHECK.due("its cents of each", most / MILLION, x.each(MILLION, 0, 0, 0));
        CHECK.due("its rest", most % MILLION, x.each(MILLION, 0, 0, 1));
        CHECK.due("its maker", 0, x.best(MILLION, 0));
    }

    private static void noneStarted() {
        DOCUMENT.quote("without boards STARTED it is TOOLING alone");
        CostSteps x = new CostSteps();
        CHECK.due("with nothing told", 0, x.total(0, 0, 0));
        x.tooling(700);
        x.part();
        x.uses(0, 1_000);
        x.assembly(0, MILLION);
        x.placed(0, 1_000);
        x.yieldOf(1, 1_000);
        CHECK.due("where nobody makes boards nor the part", 700, x.total(0, 7, 0));
        x.board(0, 10, 9);
        x.price(0, 0, 10, 9);
        CHECK.due("where somebody does", 700, x.total(0, 0, 0));
        for (int k = 0; k < 4; k++) {
            CHECK.due("nothing is bought for row " + k, 0, x.row(k, 0));
        }
        CHECK.due("suppliers", 0, x.suppliers(0, 3));
        CHECK.due("best", 0, x.best(0, 0));
        CHECK.due("one board started", 700 + 9_000 + 1_000_000_000L + 9_000_000, x.total(1, 0, 0));
    }

    private static void cannotBeBought() {
        DOCUMENT.quote("It can't be when something can't be BOUGHT");
        CostSteps x = Samples.withParts(30);
        CHECK.due("boards of a maker without steps", -1, x.total(1, 0, 0));
        x.board(0, 1, 1);
        CHECK.due("boards of a maker with a step", 1, x.total(1, 0, 0));
        CHECK.due("boards of the next maker", -1, x.total(1, 1, 0));
        x.uses(29, 1);
        CHECK.due("the last part, that nobody makes", -1, x.total(1, 0, 0));
        x.uses(0, 1);
        x.price(29, 7, 1, 1);
        CHECK.due("the first part, that nobody makes", -1, x.total(1, 0, 0));
        x.price(0, 0, BILLION, 1);
        CHECK.due("all that is used can be bought", 2 + BILLION, x.total(1, 0, 0));
    }

    private static void none() {
        DOCUMENT.quote("The constants: `NONE = -1`: There is none.");
        CHECK.due("NONE", -1, CostSteps.NONE);
    }
}
