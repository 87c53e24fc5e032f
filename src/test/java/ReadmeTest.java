import java.io.IOException;
import java.nio.file.Files;
import java.nio.file.Path;
import java.util.ArrayList;
import java.util.List;

/** README.md: its example answers what it says there, it names every call, and every test of the project. */
final class ReadmeTest {
    private static final Path README = Path.of("README.md");
    private static final Path TESTS = Path.of("src", "test", "java");
    private static final String BEGIN = "        // The example begins.";
    private static final String END = "        // The example ends.";
    private static final Check CHECK = new Check();

    public static void main(String[] args) throws IOException {
        example();
        exampleIsOfReadme();
        everyCallIsNamed();
        everyTestIsNamed();
        CHECK.end();
    }

    private static void example() {
        // The example begins.
        CostSteps costs = new CostSteps();
        int resistor = costs.part();
        costs.uses(resistor, 4);
        costs.price(resistor, 1, 1, 10);
        costs.price(resistor, 1, 500, 3);
        costs.board(0, 1, 120);
        costs.board(2, 50, 90);
        costs.yieldOf(9, 10);
        costs.tooling(5_000);
        long cents = costs.total(100, 2, 0);
        int maker = costs.best(100, 0);
        int bought = costs.row(3, 0);
        int row = costs.changed(0);
        costs.placed(0, 4);
        costs.assembly(0, 2_500);
        costs.stock(resistor, 100);
        int other = costs.part();
        costs.price(other, 3, 1, 2);
        costs.alternate(resistor, other);
        costs.currency(3, 20, 3, 2);
        long before = costs.total(100, 2, 19);
        long since = costs.total(100, 2, 20);
        int changed = costs.changed(0);
        int pieces = costs.row(3, 0);
        int of = costs.row(3, 1);
        int as = costs.row(3, 2);
        long each = costs.each(100, 2, 20, 0);
        long rest = costs.each(100, 2, 20, 1);
        int suppliers = costs.suppliers(100, 2);
        // The example ends.
        answersAreDue("0 16580 2 500 0", resistor, cents, maker, bought, row);
        answersAreDue("1 16896 17244 3", other, before, since, changed);
        answersAreDue("348 3 1 172 44 2", pieces, of, as, each, rest, suppliers);
    }

    private static void answersAreDue(String due, long... answers) {
        StringBuilder got = new StringBuilder();
        for (long answer : answers) {
            got.append(' ').append(answer);
        }
        CHECK.same("the example", due, got.toString().trim());
    }

    /** Line by line without what it says behind the slashes, so that neither goes on without the other. */
    private static void exampleIsOfReadme() throws IOException {
        List<String> here = Files.readAllLines(TESTS.resolve("ReadmeTest.java"));
        List<String> told = new ArrayList<>();
        boolean inExample = false;
        for (String line : Files.readAllLines(README)) {
            boolean isCode = inExample && !line.startsWith("```") && !line.isBlank();
            inExample = line.startsWith("```java") || (inExample && !line.startsWith("```"));
            if (isCode) {
                told.add("        " + line.split(" *//")[0]);
            }
        }
        CHECK.same("the lines of README's example", here.subList(here.indexOf(BEGIN) + 1, here.indexOf(END)), told);
    }

    private static void everyCallIsNamed() throws IOException {
        String readme = Files.readString(README);
        List<String> calls = new Face(new Document(CHECK)).calls();
        CHECK.due("calls of the document's face", 17, calls.size());
        for (String call : calls) {
            CHECK.yes("that README tells of " + call, readme.contains("`" + call + "`"));
        }
    }

    private static void everyTestIsNamed() throws IOException {
        String readme = Files.readString(README);
        try (var files = Files.newDirectoryStream(TESTS, "*.java")) {
            for (Path file : files) {
                String name = file.getFileName().toString().replace(".java", "");
                CHECK.yes("that README tells of " + name, readme.contains("`" + name + "`"));
            }
        }
    }
}
