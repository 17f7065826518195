import java.io.IOException;
import java.nio.file.Files;
import java.nio.file.Path;

/** The document's words: a test of an edge names the sentence that it holds the class to. */
final class Doc {
    private static final Path PLACE = Path.of("../shared/DOC.md");
    private static String words;

    private Doc() {
    }

    /** From here on answers are due by this sentence, which must stand in the document as it's quoted. */
    static void says(String sentence) {
        Due.sentence = sentence;
        String all = words();
        Due.is("the document has the sentence", all.isEmpty() || all.contains(plain(sentence)), true);
    }

    /** All of it with one blank between words; empty where there is no document to look at. */
    static String words() {
        if (words == null) {
            words = Files.isReadable(PLACE) ? plain(read(PLACE)) : "";
        }
        return words;
    }

    static String plain(String text) {
        return text.replaceAll("```(text|java)?", " ").replaceAll("\\s+", " ");
    }

    static String read(Path path) {
        try {
            return Files.readString(path);
        } catch (IOException e) {
            throw new IllegalStateException(e);
        }
    }
}
