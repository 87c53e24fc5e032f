import java.util.ArrayList;
import java.util.List;

/** The members that the document writes under "The public face", each as one line without its semicolon. */
final class Face {
    static final String SECTION = "The public face";
    private static final String CLASS_LINE = "public final class CostSteps {";

    final List<String> members = new ArrayList<>();
    final boolean hasClassLine;

    Face(Document document) {
        String text = document.text(SECTION);
        hasClassLine = text.contains(CLASS_LINE);
        for (String line : text.split("\n")) {
            if (line.startsWith("    public ") && line.endsWith(";")) {
                members.add(line.substring(0, line.length() - 1).trim());
            }
        }
    }

    /** With the types of the parameters alone, as the machine keeps them. */
    List<String> withoutNames() {
        List<String> lines = new ArrayList<>();
        for (String member : members) {
            lines.add(member.replaceAll("(int|long) \\w+([,)])", "$1$2"));
        }
        return lines;
    }

    /** How a method is called: its name, and the names of the parameters alone. */
    List<String> calls() {
        List<String> lines = new ArrayList<>();
        for (String member : members) {
            if (member.contains("(") && !member.contains(" CostSteps(")) {
                String call = member.replaceAll("public \\w+ (\\w+\\([^)]*\\)).*", "$1");
                lines.add(call.replaceAll("(int|long) (\\w+)", "$2"));
            }
        }
        return lines;
    }
}
