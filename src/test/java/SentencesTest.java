import java.io.IOException;
import java.nio.file.Files;
import java.nio.file.Path;
import java.util.ArrayList;
import java.util.List;
import java.util.regex.Matcher;
import java.util.regex.Pattern;
import java.util.stream.Stream;

/** Every word of the document's terms and promises stands under a test: Check.says of one has it. */
public final class SentencesTest {
    private static final Path TESTS = Path.of("src", "test", "java");
    private static final String TEXT = "\"(?:[^\"\\\\]|\\\\.)*\"";
    /** Check.says of one text, or of several that are joined. */
    private static final Pattern SAYS = Pattern.compile("Check\\.says\\((" + TEXT + "(?:\\s*\\+\\s*" + TEXT + ")*)\\)");
    /** What promises nothing by itself: headings, fences, the heads of promises (FaceTest has the face). */
    private static final Pattern HEADS = Pattern.compile("## Terms|## Promise \\d+: (A new object|\\w+)|```(text)?|`[^`]*\\)"
            + "( throws \\w+)?`:|==== \\d\\.|WHAT MAY STAND\\.|LETTERS\\.|AGREE:|\\((a|b|c)\\)");

    private SentencesTest() {
    }

    private static List<String> sentences() throws IOException {
        List<String> all = new ArrayList<>();
        try (Stream<Path> files = Files.list(TESTS)) {
            for (Path file : files.sorted().toList()) {
                Matcher says = SAYS.matcher(Files.readString(file));
                while (says.find()) {
                    all.add(joined(says.group(1)));
                }
            }
        }
        return all;
    }

    private static String joined(String texts) {
        StringBuilder words = new StringBuilder();
        Matcher text = Pattern.compile(TEXT).matcher(texts);
        while (text.find()) {
            words.append(text.group(), 1, text.group().length() - 1);
        }
        return words.toString().replace("\\\"", "\"");
    }

    /** Blanks out what is tested, so that what is left is not. */
    private static void strike(StringBuilder left, int from, int upto) {
        for (int i = from; i < upto; i++) {
            left.setCharAt(i, '\n');
        }
    }

    public static void main(String[] args) throws IOException {
        String document = Check.document();
        int from = Math.max(0, document.indexOf("## Terms"));
        int upto = Math.max(from, document.indexOf("## Not promised"));
        String promised = document.substring(from, upto);
        StringBuilder left = new StringBuilder(promised);
        List<String> sentences = sentences();
        Check.so("sentences are found in the tests", sentences.size() > 100);
        for (String words : sentences) {
            for (int at = promised.indexOf(words); at >= 0; at = promised.indexOf(words, at + 1)) {
                strike(left, at, at + words.length());
            }
        }
        Matcher heads = HEADS.matcher(promised);
        while (heads.find()) {
            strike(left, heads.start(), heads.end());
        }
        for (String words : left.toString().split("\n+")) {
            Check.so("a test stands under: " + words, !words.matches(".*\\w.*"));
        }
        Check.end();
    }
}
