/** The calls that tell an object something, promises 1 to 11 and 16, sentence by sentence. */
final class TellingTest {
    private static final long BILLION = 1_000_000_000L;
    private static final long MILLION = 1_000_000L;
    private static final Check CHECK = new Check();
    private static final Document DOCUMENT = new Document(CHECK);
    private static final Edges EDGES = new Edges(CHECK);

    public static void main(String[] args) {
        promise1();
        promise2();
        promise3();
        promise4();
        promise5();
        promise6();
        promise7();
        promise8();
        promise9();
        promise10();
        promise11();
        promise16();
        CHECK.end();
    }

    private static void promise1() {
        DOCUMENT.section("Promise 1");
        newWithoutParts();
        newWithoutSteps();
        newWithNothingTold();
        DOCUMENT.endSection();
    }

    private static void newWithoutParts() {
        DOCUMENT.quote("No parts");
        CostSteps x = new CostSteps();
        CHECK.noIndex("price of part 0", () -> x.price(0, 0, 1, 1));
        CHECK.noIndex("uses of part 0", () -> x.uses(0, 0));
        CHECK.noIndex("stock of part 0", () -> x.stock(0, 0));
        CHECK.noIndex("alternate of part 0", () -> x.alternate(0, 0));
        x.total(0, 0, 0);
        CHECK.noIndex("a row of part 0", () -> x.row(3, 0));
        Samples.withParts(3);
        CHECK.due("another object's parts are its own", 0, x.part());
    }

    private static void newWithoutSteps() {
        DOCUMENT.quote("no steps");
        CostSteps x = new CostSteps();
        for (int maker = 0; maker < 8; maker++) {
            CHECK.due("total of maker " + maker, -1, x.total(1, maker, 0));
        }
        CHECK.due("best", -1, x.best(1, 0));
        x.board(0, 1, 1);
        x.part();
        x.uses(0, 1);
        CHECK.due("total with a part", -1, x.total(1, 0, 0));
        CHECK.yes("a first step", x.price(0, 0, 1, 1));
    }

    private static void newWithNothingTold() {
        DOCUMENT.quote("nothing told");
        CostSteps x = new CostSteps();
        CHECK.due("changed before any total", -1, x.changed(0));
        CHECK.noIndex("row before any total", () -> x.row(0, 0));
        CHECK.no("tooling is 0", x.tooling(0));
        for (int kind = 0; kind < 8; kind++) {
            CHECK.no("assembly of " + kind + " is 0", x.assembly(kind, 0));
            CHECK.no("placed of " + kind + " is 0", x.placed(kind, 0));
        }
        x.board(0, 1, 3);
        CHECK.due("no yields, no rates, no tooling, no placings", 15, x.total(5, 0, 0));
    }

    private static void promise2() {
        DOCUMENT.section("Promise 2");
        DOCUMENT.quote("A new part, of which a board uses none: its number");
        CostSteps x = Samples.withBoards();
        for (int part = 0; part < 30; part++) {
            CHECK.due("part()", part, x.part());
            CHECK.due("a new part is not used", 1, x.total(1, 0, 0));
            int made = part;
            CHECK.no("uses none already", x.uses(made, 0));
            CHECK.noIndex("the next part is not there yet", () -> x.uses(made + 1, 0));
        }
        DOCUMENT.quote("NONE when there are 30");
        CHECK.due("the 31st part()", -1, x.part());
        CHECK.due("the 32nd part()", -1, x.part());
        CHECK.noIndex("there is no part 30", () -> x.uses(30, 0));
        CHECK.yes("part 29 is still there", x.uses(29, 1));
        CHECK.due("and counts", -1, x.total(1, 0, 0));
        EDGES.changesNothing("part() of thirty", Samples.full(), Samples.full(), CostSteps::part);
        DOCUMENT.endSection();
    }

    private static void promise3() {
        DOCUMENT.section("Promise 3");
        priceTakesThePlace();
        priceSoAlready();
        priceSixOthers();
        DOCUMENT.quote("IndexOutOfBoundsException, when there is no such part");
        EDGES.index("part", Samples.RICH_PARTS, (y, part) -> y.price(part, 0, 2, 1));
        EDGES.noIndex("part 4 and from 0", y -> y.price(4, 0, 0, 1));
        DOCUMENT.quote("or maker");
        EDGES.index("maker", 8, (y, maker) -> y.price(0, maker, 2, 1));
        EDGES.noIndex("maker 8 and cents 0", y -> y.price(0, 8, 1, 0));
        DOCUMENT.quote("IllegalArgumentException, when a number is not so");
        EDGES.number("from", 1, BILLION, (y, from) -> y.price(0, 0, from, 1));
        EDGES.number("cents", 1, 100_000, (y, cents) -> y.price(0, 0, 2, cents));
        CostSteps full = Samples.full();
        CHECK.noArgument("cents 0 of a seventh step", () -> full.price(0, 7, 2, 0));
        CHECK.noArgument("from 0 of a seventh step", () -> full.price(0, 7, 0, 1));
        DOCUMENT.endSection();
    }

    private static void priceTakesThePlace() {
        DOCUMENT.quote("A STEP; one that begins there takes the place of what was: true");
        CostSteps x = Samples.withPart();
        CHECK.yes("a step", x.price(0, 7, 1, 9));
        CHECK.due("total by it", 10 + 90, x.total(10, 0, 0));
        CHECK.yes("a dearer price of the step", x.price(0, 7, 1, 12));
        CHECK.due("total by the dearer price", 10 + 120, x.total(10, 0, 0));
        CHECK.yes("a lower price of the step", x.price(0, 7, 1, 8));
        CHECK.due("total by the lower price", 10 + 80, x.total(10, 0, 0));
        for (int i = 2; i <= 6; i++) {
            CHECK.yes("step " + i + ": what took another's place is not one more", x.price(0, 7, 100L * i, 8));
        }
        CHECK.yes("the first of six changes still", x.price(0, 7, 1, 9));
        CHECK.yes("the last of six changes still", x.price(0, 7, 600, 6));
        CHECK.due("total by the last", 600 + 3_600, x.total(600, 0, 0));
    }

    private static void priceSoAlready() {
        DOCUMENT.quote("false, when it is so already");
        CostSteps x = Samples.withPart();
        x.price(0, 7, 1, 9);
        CHECK.no("told again", x.price(0, 7, 1, 9));
        CHECK.yes("told of another maker", x.price(0, 6, 1, 9));
        CHECK.yes("told from another number on", x.price(0, 7, 2, 9));
        CHECK.yes("told otherwise", x.price(0, 7, 1, 8));
        CHECK.yes("told as it was once", x.price(0, 7, 1, 9));
        CHECK.no("and once more", x.price(0, 7, 1, 9));
        EDGES.changesNothing("so already", Samples.rich(), Samples.rich(), y -> y.price(0, 0, 50, 8));
        EDGES.changesNothing("one of six so already", Samples.full(), Samples.full(), y -> y.price(0, 7, 60, 44));
    }

    private static void priceSixOthers() {
        DOCUMENT.quote("or there are six others");
        CostSteps x = Samples.full();
        CHECK.no("below the six", x.price(0, 7, 1, 1));
        CHECK.no("among the six", x.price(0, 7, 11, 1));
        CHECK.no("behind the six", x.price(0, 7, BILLION, 1));
        CHECK.yes("of another maker", x.price(0, 6, 1, 1));
        CHECK.yes("of another part", x.price(1, 7, 1, 1));
        EDGES.changesNothing("a seventh step", Samples.full(), Samples.full(), y -> y.price(0, 7, 1, 1));
        EDGES.changesNothing("a seventh step of the last", Samples.full(), Samples.full(), y -> y.price(29, 7, 1, 1));
    }

    private static void promise4() {
        DOCUMENT.section("Promise 4");
        DOCUMENT.quote("How many pieces of a part a board uses (0 .. 1,000)");
        CostSteps x = Samples.withParts(2);
        x.board(0, 1, 1);
        x.price(1, 0, 1, 10);
        x.uses(1, 3);
        CHECK.due("total with three a board", 62, x.total(2, 0, 0));
        x.uses(1, 1_000);
        CHECK.due("total with a thousand a board", 20_002, x.total(2, 0, 0));
        x.uses(1, 0);
        CHECK.due("total without the part", 2, x.total(2, 0, 0));
        DOCUMENT.quote("whether it was otherwise");
        CHECK.no("none as before", x.uses(1, 0));
        CHECK.yes("the most", x.uses(1, 1_000));
        CHECK.no("the most again", x.uses(1, 1_000));
        CHECK.no("another part's number is its own", x.uses(0, 0));
        CHECK.yes("none again", x.uses(1, 0));
        EDGES.changesNothing("as it was", Samples.rich(), Samples.rich(), y -> y.uses(2, 3));
        DOCUMENT.quote("IndexOutOfBoundsException, when there is no such part");
        EDGES.index("part", Samples.RICH_PARTS, (y, part) -> y.uses(part, 9));
        EDGES.noIndex("part -1 and n -1", y -> y.uses(-1, -1));
        DOCUMENT.quote("IllegalArgumentException, when n is not so");
        EDGES.number("n", 0, 1_000, (y, n) -> y.uses(0, n));
        DOCUMENT.endSection();
    }

    private static void promise5() {
        DOCUMENT.section("Promise 5");
        DOCUMENT.quote("A STEP for boards, as price()");
        CostSteps x = new CostSteps();
        CHECK.yes("a step", x.board(7, 1, 50));
        CHECK.no("so already", x.board(7, 1, 50));
        CHECK.due("total of three", 150, x.total(3, 7, 0));
        CHECK.yes("one that begins there", x.board(7, 1, 40));
        CHECK.due("takes the place of what was", 120, x.total(3, 7, 0));
        for (int i = 2; i <= 6; i++) {
            CHECK.yes("step " + i, x.board(7, 10L * i, 30));
        }
        CHECK.no("there are six others", x.board(7, 2, 1));
        CHECK.due("the seventh step is not there", 120, x.total(3, 7, 0));
        CHECK.yes("the last of six changes still", x.board(7, 60, 29));
        CHECK.no("the last of six so already", x.board(7, 60, 29));
        CHECK.yes("another maker", x.board(6, 2, 1));
        EDGES.changesNothing("so already", Samples.rich(), Samples.rich(), y -> y.board(3, 1, 23));
        EDGES.changesNothing("a seventh step", Samples.full(), Samples.full(), y -> y.board(7, 1, 1));
        boardWrong();
        DOCUMENT.endSection();
    }

    private static void boardWrong() {
        EDGES.index("maker", 8, (y, maker) -> y.board(maker, 2, 1));
        EDGES.number("from", 1, BILLION, (y, from) -> y.board(0, from, 1));
        EDGES.number("cents", 1, 100_000, (y, cents) -> y.board(0, 2, cents));
        EDGES.noIndex("maker 8 and from 0", y -> y.board(8, 0, 1));
        CostSteps full = Samples.full();
        CHECK.noArgument("cents 0 of a seventh step", () -> full.board(7, 2, 0));
    }

    private static void promise6() {
        DOCUMENT.section("Promise 6");
        DOCUMENT.quote("What a thousand placings of a kind cost (0 .. 1,000,000 cents)");
        CostSteps x = Samples.withBoards();
        x.placed(7, 1);
        x.assembly(7, MILLION);
        CHECK.due("the most: a thousand cents a placing", 1_001, x.total(1, 0, 0));
        x.assembly(7, 1);
        CHECK.due("the least: a cent for a thousand", 1_001, x.total(1_000, 0, 0));
        x.assembly(7, 0);
        CHECK.due("nothing", 1, x.total(1, 0, 0));
        DOCUMENT.quote("whether it was otherwise");
        CHECK.no("nothing as before", x.assembly(7, 0));
        CHECK.yes("the most", x.assembly(7, MILLION));
        CHECK.no("the most again", x.assembly(7, MILLION));
        CHECK.yes("another kind's cents are its own", x.assembly(6, MILLION));
        EDGES.changesNothing("as it was", Samples.rich(), Samples.rich(), y -> y.assembly(5, 105));
        DOCUMENT.quote("IndexOutOfBoundsException, when there is no such kind");
        EDGES.index("kind", 8, (y, kind) -> y.assembly(kind, 9));
        EDGES.noIndex("kind 8 and cents -1", y -> y.assembly(8, -1));
        DOCUMENT.quote("IllegalArgumentException, when it is not so");
        EDGES.number("cents", 0, MILLION, (y, cents) -> y.assembly(0, cents));
        DOCUMENT.endSection();
    }

    private static void promise7() {
        DOCUMENT.section("Promise 7");
        DOCUMENT.quote("How many placings of a kind a board has (0 .. 1,000)");
        CostSteps x = Samples.withBoards();
        x.assembly(7, 1_000);
        x.placed(7, 5);
        CHECK.due("five on each of two", 12, x.total(2, 0, 0));
        x.placed(7, 1_000);
        CHECK.due("a thousand on each of two", 2_002, x.total(2, 0, 0));
        x.placed(7, 0);
        CHECK.due("none", 2, x.total(2, 0, 0));
        DOCUMENT.quote("likewise");
        CHECK.no("none as before", x.placed(7, 0));
        CHECK.yes("the most", x.placed(7, 1_000));
        CHECK.no("the most again", x.placed(7, 1_000));
        CHECK.yes("another kind's placings are its own", x.placed(6, 1_000));
        EDGES.changesNothing("as it was", Samples.rich(), Samples.rich(), y -> y.placed(5, 6));
        EDGES.index("kind", 8, (y, kind) -> y.placed(kind, 19));
        EDGES.noIndex("kind -1 and n -1", y -> y.placed(-1, -1));
        EDGES.number("n", 0, 1_000, (y, n) -> y.placed(0, n));
        DOCUMENT.endSection();
    }

    private static void promise8() {
        DOCUMENT.section("Promise 8");
        DOCUMENT.quote("One more YIELD: true");
        CostSteps x = Samples.withBoards();
        CHECK.yes("a yield", x.yieldOf(1, 2));
        CHECK.due("twice the boards", 10, x.total(5, 0, 0));
        CHECK.yes("the same once more", x.yieldOf(1, 2));
        CHECK.due("four times the boards", 20, x.total(5, 0, 0));
        for (int i = 3; i <= 8; i++) {
            CHECK.yes("yield " + i, x.yieldOf(1_000, 1_000));
        }
        DOCUMENT.quote("false, when there are 8");
        CHECK.no("a ninth yield", x.yieldOf(1, 2));
        CHECK.no("a tenth yield", x.yieldOf(1, 1));
        CHECK.due("the ninth does not count", 20, x.total(5, 0, 0));
        EDGES.changesNothing("a ninth yield", Samples.full(), Samples.full(), y -> y.yieldOf(1, 2));
        DOCUMENT.quote("IllegalArgumentException, when above or below is not 1 .. 1,000");
        EDGES.number("above", 1, 1_000, (y, above) -> y.yieldOf(above, 1_000));
        EDGES.number("below", 1, 1_000, (y, below) -> y.yieldOf(1, below));
        EDGES.noArgument("0 / 0", y -> y.yieldOf(0, 0));
        EDGES.noArgument("-2 / -1", y -> y.yieldOf(-2, -1));
        EDGES.noArgument("1,001 / 1,001", y -> y.yieldOf(1_001, 1_001));
        CHECK.noArgument("a wrong ninth yield", () -> x.yieldOf(0, 1));
        aboveIsGreater(x);
        DOCUMENT.endSection();
    }

    private static void aboveIsGreater(CostSteps withEight) {
        DOCUMENT.quote("or above is greater");
        EDGES.noArgument("2 / 1", y -> y.yieldOf(2, 1));
        EDGES.noArgument("1,000 / 999", y -> y.yieldOf(1_000, 999));
        EDGES.noArgument("1,000 / 1", y -> y.yieldOf(1_000, 1));
        CostSteps x = new CostSteps();
        CHECK.yes("1 / 1: not greater", x.yieldOf(1, 1));
        CHECK.yes("999 / 999: not greater", x.yieldOf(999, 999));
        CHECK.yes("999 / 1,000: less", x.yieldOf(999, 1_000));
        CHECK.noArgument("a ninth yield, above greater", () -> withEight.yieldOf(2, 1));
    }

    private static void promise9() {
        DOCUMENT.section("Promise 9");
        rateFromAnyDay();
        rateToldAnew();
        rateSoAlready();
        DOCUMENT.quote("or six other days are told");
        CostSteps x = Samples.full();
        CHECK.no("a day before the six", x.currency(7, Long.MIN_VALUE, 1, 1));
        CHECK.no("a day behind the six", x.currency(7, 4, 1, 1));
        CHECK.no("the greatest day", x.currency(7, Long.MAX_VALUE, 1, 1));
        CHECK.yes("the first of six changes still", x.currency(7, -2, 7, 1));
        CHECK.yes("the last of six changes still", x.currency(7, 3, 7, 1));
        CHECK.yes("of another maker", x.currency(6, 4, 1, 1));
        EDGES.changesNothing("a seventh day", Samples.full(), Samples.full(), y -> y.currency(7, -3, 9, 1));
        DOCUMENT.quote("IndexOutOfBoundsException, when there is no such maker");
        EDGES.index("maker", 8, (y, maker) -> y.currency(maker, 1, 1, 9));
        EDGES.noIndex("maker -1 and above 0", y -> y.currency(-1, 0, 0, 1));
        DOCUMENT.quote("IllegalArgumentException, when it is no rate");
        EDGES.number("above", 1, 1_000, (y, above) -> y.currency(0, 1, above, 1));
        EDGES.number("below", 1, 1_000, (y, below) -> y.currency(0, 1, 1, below));
        EDGES.noArgument("0 / 0", y -> y.currency(0, 1, 0, 0));
        EDGES.noArgument("-1 / -1", y -> y.currency(0, 1, -1, -1));
        CHECK.noArgument("no rate on a seventh day", () -> x.currency(7, 9, 0, 1));
        DOCUMENT.endSection();
    }

    private static void rateFromAnyDay() {
        DOCUMENT.quote("A maker's RATE from a day on (any)");
        CostSteps x = new CostSteps();
        x.board(7, 1, 10);
        long[] days = {Long.MAX_VALUE, Long.MIN_VALUE, -1, 0, 1, 1L << 32};
        for (int i = 0; i < days.length; i++) {
            CHECK.yes("day " + days[i], x.currency(7, days[i], 2 + i, 1));
        }
        for (int i = 0; i < days.length; i++) {
            CHECK.due("on day " + days[i], 10 * (2 + i), x.total(1, 7, days[i]));
        }
        CHECK.due("from the least day on", 30, x.total(1, 7, -2));
        CHECK.due("behind a day beyond an int", 70, x.total(1, 7, (1L << 32) + 1));
    }

    private static void rateToldAnew() {
        DOCUMENT.quote("told anew it takes the place of what was: true");
        CostSteps x = new CostSteps();
        x.board(7, 1, 10);
        x.currency(7, 0, 2, 1);
        CHECK.yes("another above", x.currency(7, 0, 3, 1));
        CHECK.due("total by it", 30, x.total(1, 7, 0));
        CHECK.yes("another below", x.currency(7, 0, 3, 2));
        CHECK.due("total by it", 15, x.total(1, 7, 0));
        CHECK.yes("both others", x.currency(7, 0, 1, 1));
        CHECK.due("total by both", 10, x.total(1, 7, 0));
        for (int day = 1; day <= 5; day++) {
            CHECK.yes("day " + day + ": what took another's place is not one more", x.currency(7, day, 9, 1));
        }
    }

    private static void rateSoAlready() {
        DOCUMENT.quote("false, when it is so already");
        CostSteps x = new CostSteps();
        CHECK.yes("1 / 1, told first", x.currency(7, 0, 1, 1));
        CHECK.no("1 / 1, told again", x.currency(7, 0, 1, 1));
        CHECK.yes("on another day", x.currency(7, 1, 1, 1));
        CHECK.yes("of another maker", x.currency(6, 0, 1, 1));
        EDGES.changesNothing("so already", Samples.rich(), Samples.rich(), y -> y.currency(7, 2, 5, 3));
        EDGES.changesNothing("one of six so already", Samples.full(), Samples.full(), y -> y.currency(7, 3, 16, 10));
    }

    private static void promise10() {
        DOCUMENT.section("Promise 10");
        DOCUMENT.quote("TOOLING (0 .. 1,000,000,000 cents)");
        CostSteps x = Samples.withBoards();
        x.tooling(BILLION);
        CHECK.due("the most", BILLION + 5, x.total(5, 0, 0));
        x.tooling(1);
        CHECK.due("a cent", 6, x.total(5, 0, 0));
        x.tooling(0);
        CHECK.due("none", 5, x.total(5, 0, 0));
        DOCUMENT.quote("whether it was otherwise");
        CHECK.no("none as before", x.tooling(0));
        CHECK.yes("the most", x.tooling(BILLION));
        CHECK.no("the most again", x.tooling(BILLION));
        CHECK.yes("none again", x.tooling(0));
        EDGES.changesNothing("as it was", Samples.rich(), Samples.rich(), y -> y.tooling(77));
        DOCUMENT.quote("IllegalArgumentException, when it is not so");
        EDGES.number("cents", 0, BILLION, (y, cents) -> y.tooling(cents));
        DOCUMENT.endSection();
    }

    private static void promise11() {
        DOCUMENT.section("Promise 11");
        DOCUMENT.quote("A part's stock (0 .. 1,000,000,000)");
        CostSteps x = Samples.withParts(2);
        x.board(0, 1, 1);
        x.uses(1, 3);
        x.price(1, 0, 1, 10);
        x.stock(1, 5);
        CHECK.due("the stock goes first", 2 + 10, x.total(2, 0, 0));
        x.stock(1, BILLION);
        CHECK.due("the most", 2, x.total(2, 0, 0));
        x.stock(1, 0);
        CHECK.due("none", 2 + 60, x.total(2, 0, 0));
        DOCUMENT.quote("whether it was otherwise");
        CHECK.no("none as before", x.stock(1, 0));
        CHECK.yes("the most", x.stock(1, BILLION));
        CHECK.no("the most again", x.stock(1, BILLION));
        CHECK.no("another part's stock is its own", x.stock(0, 0));
        CHECK.due("a total", 2, x.total(2, 0, 0));
        CHECK.no("takes nothing out of it", x.stock(1, BILLION));
        EDGES.changesNothing("as it was", Samples.rich(), Samples.rich(), y -> y.stock(1, 5));
        DOCUMENT.quote("IndexOutOfBoundsException, when there is no such part");
        EDGES.index("part", Samples.RICH_PARTS, (y, part) -> y.stock(part, 9));
        EDGES.noIndex("part 4 and n -1", y -> y.stock(4, -1));
        DOCUMENT.quote("IllegalArgumentException, when it is not so");
        EDGES.number("n", 0, BILLION, (y, n) -> y.stock(0, n));
        DOCUMENT.endSection();
    }

    private static void promise16() {
        DOCUMENT.section("Promise 16");
        anotherPartStandsIn();
        alternateOfEveryPart();
        DOCUMENT.quote("false, when it is that");
        CostSteps x = Samples.withParts(3);
        x.alternate(0, 2);
        CHECK.no("told again", x.alternate(0, 2));
        CHECK.yes("the other way round", x.alternate(2, 0));
        CHECK.no("the other way round again", x.alternate(2, 0));
        CHECK.yes("another of the same part", x.alternate(0, 1));
        CHECK.no("the first is so still", x.alternate(0, 2));
        EDGES.changesNothing("that already", Samples.rich(), Samples.rich(), y -> y.alternate(0, 1));
        DOCUMENT.quote("or the part itself");
        CHECK.no("a part of itself", x.alternate(1, 1));
        CHECK.no("a part with alternates of itself", x.alternate(0, 0));
        EDGES.changesNothing("the part itself", Samples.rich(), Samples.rich(), y -> y.alternate(2, 2));
        DOCUMENT.quote("IndexOutOfBoundsException, when there are no such parts");
        EDGES.index("part", Samples.RICH_PARTS, (y, part) -> y.alternate(part, 0));
        EDGES.index("other", Samples.RICH_PARTS, (y, other) -> y.alternate(0, other));
        EDGES.noIndex("both the same, and not there", y -> y.alternate(4, 4));
        EDGES.noIndex("both -1", y -> y.alternate(-1, -1));
        EDGES.noIndex("other 32, whose bit would be that of 0", y -> y.alternate(1, 32));
        DOCUMENT.endSection();
    }

    private static void anotherPartStandsIn() {
        DOCUMENT.quote("Another part becomes an alternate of one (not the other way round): true");
        CostSteps x = Samples.withPart();
        x.part();
        x.part();
        x.price(2, 0, 1, 5);
        CHECK.due("nobody makes part 0", -1, x.total(1, 0, 0));
        CHECK.yes("alternate(2, 0)", x.alternate(2, 0));
        CHECK.due("not the other way round", -1, x.total(1, 0, 0));
        CHECK.yes("alternate(0, 1)", x.alternate(0, 1));
        CHECK.yes("alternate(1, 2)", x.alternate(1, 2));
        CHECK.due("not the alternate of an alternate", -1, x.total(1, 0, 0));
        CHECK.yes("alternate(0, 2)", x.alternate(0, 2));
        CHECK.due("bought as part 2", 6, x.total(1, 0, 0));
        CHECK.due("which part", 2, x.row(3, 2));
        x.price(1, 0, 1, 4);
        CHECK.due("bought as part 1, the cheaper alternate", 5, x.total(1, 0, 0));
        x.stock(1, 100);
        CHECK.due("an alternate's stock is not used", 5, x.total(1, 0, 0));
    }

    private static void alternateOfEveryPart() {
        CostSteps x = Samples.withParts(30);
        x.board(0, 1, 1);
        x.uses(29, 1);
        x.uses(28, 1);
        x.price(28, 0, 1, 100);
        for (int other = 28; other >= 0; other--) {
            CHECK.yes("part " + other + " for the last part", x.alternate(29, other));
            x.price(other, 0, 1, 3 + other);
        }
        CHECK.due("the last part bought as the first", 1 + 3 + 31, x.total(1, 0, 0));
        CHECK.due("which part", 0, x.row(32, 2));
        CHECK.due("its neighbour has no alternates", 28, x.row(31, 2));
        CHECK.yes("the last part for the first", x.alternate(0, 29));
    }
}
