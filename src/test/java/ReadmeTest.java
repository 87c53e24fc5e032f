/** The example of README.md answers what it says there. */
final class ReadmeTest {
    public static void main(String[] args) {
        Check check = new Check();
        CostSteps costs = new CostSteps();
        int resistor = costs.part();
        check.due("the part's number", 0, resistor);
        costs.uses(resistor, 4);
        costs.price(resistor, 1, 1, 10);
        costs.price(resistor, 1, 500, 3);
        costs.board(0, 1, 120);
        costs.board(2, 50, 90);
        costs.yieldOf(9, 10);
        costs.tooling(5_000);
        check.due("the total", 16_580, costs.total(100, 2, 0));
        check.due("the best maker", 2, costs.best(100, 0));
        check.due("the resistors bought", 500, costs.row(3, 0));
        check.due("the first row that changed", 0, costs.changed(0));
        check.end();
    }
}
