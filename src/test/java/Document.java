import java.io.IOException;
import java.io.UncheckedIOException;
import java.nio.file.Files;
import java.nio.file.Path;
import java.util.BitSet;
import java.util.LinkedHashMap;
import java.util.Map;

/** The document's sentences: a test quotes the one that it is of, and at the end none may be left unquoted. */
final class Document {
    private static final Path FILE = Path.of("..", "shared", "DOC.md");

    private final Check check;
    private final Map<String, String> sections = new LinkedHashMap<>();
    private final Map<String, BitSet> quoted = new LinkedHashMap<>();
    private String section = "";

    Document(Check check) {
        this.check = check;
        for (String text : read().split("\n## ")) {
            String[] headAndBody = text.split("\n", 2);
            String name = headAndBody[0].split(":")[0];
            sections.put(name, headAndBody.length < 2 ? "" : withoutSignature(headAndBody[1].trim()));
            quoted.put(name, new BitSet());
        }
    }

    private static String read() {
        try {
            return Files.readString(FILE);
        } catch (IOException e) {
            throw new UncheckedIOException(e);
        }
    }

    /** A promise begins with the call's declaration, of which FaceTest is the test. */
    private static String withoutSignature(String body) {
        int end = body.startsWith("`") ? body.indexOf("`:") : -1;
        return end < 0 ? body : body.substring(end + 2).trim();
    }

    String text(String name) {
        return sections.getOrDefault(name, "");
    }

    void section(String name) {
        section = name;
        check.of(name);
        check.yes("that the document has this section", sections.containsKey(name));
    }

    /** The tests that follow are of these words of the section. */
    void quote(String words) {
        String text = text(section);
        check.of(section + ", \"" + words + "\"");
        check.yes("that the document says so", text.contains(words));
        for (int at = text.indexOf(words); at >= 0; at = text.indexOf(words, at + 1)) {
            quoted.get(section).set(at, at + words.length());
        }
    }

    void endSection() {
        check.of(section);
        check.same("that no words are without a test", "", unquoted());
    }

    /** What no test has quoted, but for the signs between sentences. */
    private String unquoted() {
        String text = text(section);
        StringBuilder left = new StringBuilder();
        for (int i = 0; i < text.length(); i++) {
            boolean isQuoted = quoted.get(section).get(i);
            left.append(isQuoted || ".,;:()\n".indexOf(text.charAt(i)) >= 0 ? ' ' : text.charAt(i));
        }
        return left.toString().trim();
    }
}
