import java.io.IOException;
import java.util.ArrayList;
import java.util.List;

/** The public face of the class is that of the document, word for word: names, parameters, constants. */
public final class FaceTest {
    private FaceTest() { }

    public static void main(String[] args) throws IOException {
        List<String> due = Face.ofDocument();
        List<String> made = Face.ofSource();
        int wrong = tellMissing("the class lacks", due, made) + tellMissing("the document does not tell", made, due);
        System.out.println(wrong == 0 ? due.size() + " lines of the face are as told" : wrong + " lines of the face are not as told");
        if (wrong != 0 || due.size() < 2) {
            System.exit(1);
        }
    }

    private static int tellMissing(String words, List<String> lines, List<String> from) {
        List<String> missing = new ArrayList<>(lines);
        for (String line : from) {
            missing.remove(line);
        }
        for (String line : missing) {
            System.out.println(words + ": " + line);
        }
        return missing.size();
    }
}
