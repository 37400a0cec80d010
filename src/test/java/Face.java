import java.io.IOException;
import java.nio.file.Files;
import java.nio.file.Path;
import java.util.ArrayList;
import java.util.List;

/** The public face as it is written down: a line for each constant, constructor and method, with its parameters' names. */
final class Face {
    static final Path DOCUMENT = Path.of("../shared/DOC.md"), SOURCE = Path.of("src/main/java/SaltSaints.java");

    private Face() { }

    static List<String> ofDocument() throws IOException {
        String text = Files.readString(DOCUMENT);
        int from = text.indexOf("```java", text.indexOf("## The public face"));
        return publicLines(text.substring(from, text.indexOf("\n```\n", from)));
    }

    static List<String> ofSource() throws IOException {
        return publicLines(Files.readString(SOURCE));
    }

    private static List<String> publicLines(String text) {
        List<String> lines = new ArrayList<>();
        for (String line : text.split("\n")) {
            String told = line.strip();
            if (told.startsWith("public ")) {
                lines.add(told.replaceAll("( \\{|;)$", ""));
            }
        }
        return lines;
    }

    /** As a call is written: statues(sheet, lane, i, n). */
    static List<String> calls() throws IOException {
        List<String> calls = new ArrayList<>();
        for (String line : ofDocument()) {
            if (line.matches("public (int|long) .*\\)")) {
                calls.add(line.replaceAll("public (int|long) ", "").replaceAll("(int|boolean) ", ""));
            }
        }
        return calls;
    }
}
