import java.io.IOException;
import java.nio.file.Files;
import java.nio.file.Path;

/**
 * The text of ../shared/DOC.md, so that a test's quotes can be compared with it. A quote that is not there is told
 * and fails nothing: it is a fault of the test's words, not of the program.
 */
final class Document {
    private static final Path PLACE = Path.of("..", "shared", "DOC.md");
    private static final String TEXT = read();

    private Document() {
    }

    private static String read() {
        try {
            return Files.readString(PLACE).replace("```text", "").replace("```", "");
        } catch (IOException e) {
            System.out.println(PLACE + " is not there: quotes are not compared with it");
            return "";
        }
    }

    /** Where: the beginning of a section's heading. */
    static void lookFor(String where, String sentence) {
        if (!TEXT.isEmpty() && !inOneLine(section(where)).contains(sentence)) {
            System.out.println("not in the document under " + where + ": " + sentence);
        }
    }

    private static String section(String where) {
        for (String section : TEXT.split("\n## ")) {
            if (section.startsWith(where + ":") || section.startsWith(where + "\n")) {
                return section;
            }
        }
        return "";
    }

    private static String inOneLine(String text) {
        return text.replaceAll("\\s+", " ");
    }
}
