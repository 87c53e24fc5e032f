/** Objects that many tests begin with. */
final class Samples {
    static final int RICH_PARTS = 4;

    private Samples() {
    }

    static CostSteps withParts(int count) {
        CostSteps x = new CostSteps();
        for (int i = 0; i < count; i++) {
            x.part();
        }
        return x;
    }

    /** Maker 0 makes boards for a cent; no parts. */
    static CostSteps withBoards() {
        CostSteps x = new CostSteps();
        x.board(0, 1, 1);
        return x;
    }

    /** Maker 0 makes boards for a cent, each of which uses one piece of part 0, that nobody makes. */
    static CostSteps withPart() {
        CostSteps x = withBoards();
        x.part();
        x.uses(0, 1);
        return x;
    }

    /** Something of everything, so that a change of anything shows, and no list full. */
    static CostSteps rich() {
        CostSteps x = withParts(RICH_PARTS);
        for (int part = 0; part < RICH_PARTS; part++) {
            x.uses(part, 1 + part);
            x.price(part, part, 1, 10 + part);
        }
        x.price(0, 0, 50, 8);
        x.price(2, 7, 1, 12);
        for (int at = 0; at < 8; at++) {
            x.board(at, 1, 20 + at);
            x.assembly(at, 100 + at);
            x.placed(at, 1 + at);
        }
        x.currency(0, 0, 3, 2);
        x.currency(7, 2, 5, 3);
        x.tooling(77);
        x.stock(1, 5);
        x.stock(2, 1);
        x.yieldOf(9, 10);
        x.alternate(0, 1);
        x.total(5, 0, 0);
        x.total(6, 1, 1);
        return x;
    }

    /** Thirty parts, eight yields, and six steps, six steps for boards and six days of maker 7. */
    static CostSteps full() {
        CostSteps x = withParts(30);
        x.uses(0, 3);
        x.uses(29, 2);
        x.board(0, 1, 30);
        for (int i = 1; i <= 6; i++) {
            x.price(0, 7, 10L * i, 50 - i);
            x.price(29, 7, 10L * i, 60 - i);
            x.board(7, 10L * i, 40 - i);
            x.currency(7, i - 3, 10 + i, 10);
        }
        for (int i = 0; i < 8; i++) {
            x.yieldOf(9, 10);
        }
        x.total(5, 0, 0);
        x.total(6, 7, 1);
        return x;
    }
}
