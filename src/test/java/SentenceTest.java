import java.io.IOException;
import java.nio.file.DirectoryStream;
import java.nio.file.Files;
import java.nio.file.Path;
import java.util.regex.Matcher;
import java.util.regex.Pattern;

/** Every bound and every refusal that the document's terms and promises name stands in a sentence that a test quotes. */
public final class SentenceTest {
    private static final Path TESTS = Path.of("src/test/java");
    private static final Pattern QUOTE = Pattern.compile("Doc\\.says\\(((?:\\s*\\+?\\s*\"(?:[^\"\\\\]|\\\\.)*\")+)\\s*\\)");
    private static final Pattern PART = Pattern.compile("\"((?:[^\"\\\\]|\\\\.)*)\"");
    private static final Pattern BOUND = Pattern.compile("-?\\b\\d[\\d,]*|\\bNONE\\b|\\b(none|refused|cut|first|last|least"
            + "|greatest|at most|more|below|above|beyond|twice|empty|nothing|nobody|modulo|unlike|false)\\b");

    private SentenceTest() {
    }

    public static void main(String[] args) throws IOException {
        String all = Doc.words();
        boolean[] quoted = new boolean[all.length()];
        int tests = 0;
        try (DirectoryStream<Path> files = Files.newDirectoryStream(TESTS, "Edge*Test.java")) {
            for (Path file : files) {
                tests += mark(Doc.read(file), all, quoted);
            }
        }
        Due.is("tests that quote the document are there", tests > 0, true);
        lookAt(all, quoted);
        Due.end();
    }

    private static int mark(String source, String all, boolean[] quoted) {
        int tests = 0;
        Matcher says = QUOTE.matcher(source);
        while (says.find()) {
            StringBuilder sentence = new StringBuilder();
            Matcher part = PART.matcher(says.group(1));
            while (part.find()) {
                sentence.append(part.group(1).replace("\\\"", "\""));
            }
            String words = Doc.plain(sentence.toString());
            for (int at = all.indexOf(words); at >= 0; at = all.indexOf(words, at + 1)) {
                java.util.Arrays.fill(quoted, at, at + words.length(), true);
            }
            tests++;
        }
        return tests;
    }

    private static void lookAt(String all, boolean[] quoted) {
        int from = all.indexOf("## Terms");
        int to = all.indexOf("## Not promised");
        // what a promise is called, and the line of its method, name no bounds
        Pattern heading = Pattern.compile("## Promise \\d+: [\\w ]+|`[^`]*`|==== \\d\\.");
        Matcher skip = heading.matcher(all);
        while (skip.find()) {
            java.util.Arrays.fill(quoted, skip.start(), skip.end(), true);
        }
        Matcher bound = BOUND.matcher(all);
        while (bound.find()) {
            if (bound.start() >= from && bound.start() < to) {
                String around = all.substring(Math.max(0, bound.start() - 40), Math.min(all.length(), bound.end() + 20));
                Due.is("a test quotes '" + bound.group() + "' in '.." + around + "..'", quoted[bound.start()], true);
            }
        }
    }
}
