import java.io.IOException;
import java.nio.file.Files;
import java.nio.file.Path;
import java.util.ArrayList;
import java.util.HashSet;
import java.util.List;
import java.util.Set;
import java.util.function.Predicate;

/** The sentences of the document, each behind its heading, so that a test can name the one that it stands for. */
final class Document {
    private static final Path FILE = Path.of("../shared/DOC.md");
    private static final Set<String> quoted = new HashSet<>();

    private Document() {
    }

    /** The checks from here on stand for this sentence. */
    static void sentence(String heading, String words) {
        quoted.add(heading + " | " + words);
        Checks.part = heading + " | " + words;
    }

    /** Each sentence that is asked for has been quoted, and each quoted one stands in the document. */
    static void dueSentences(Predicate<String> askedFor) throws IOException {
        List<String> all = sentences();
        Checks.part = "the document's sentences";
        for (String sentence : all) {
            if (askedFor.test(sentence)) {
                Checks.due("a test for " + sentence, true, () -> quoted.contains(sentence));
            }
        }
        for (String sentence : quoted) {
            Checks.due("the document's words for " + sentence, true, () -> all.contains(sentence));
        }
    }

    static List<String> sentences() throws IOException {
        List<String> sentences = new ArrayList<>();
        StringBuilder paragraph = new StringBuilder();
        String heading = "";
        String text = Files.readString(FILE).replaceAll("(?s)```.*?```", "");
        for (String line : (text + "\n\n").split("\n", -1)) {
            boolean isHeading = line.matches("#+ .*|<h2>.*</h2>");
            if (isHeading || line.isEmpty() || line.startsWith("- ")) {
                cut(heading, paragraph.toString().trim(), sentences);
                paragraph.setLength(0);
            }
            if (isHeading) {
                heading = line.replaceAll("^#+ |</?h2>", "");
            } else {
                paragraph.append(line).append(' ');
            }
        }
        return sentences;
    }

    private static void cut(String heading, String paragraph, List<String> sentences) {
        // A promise's method is told by the face, which CranepoolLanguage compares.
        String words = paragraph.replaceFirst("^`\\w+ \\w+\\(.*?`: ", "");
        for (String sentence : words.split("(?<=\\.) (?=[A-Z])")) {
            if (!sentence.isEmpty()) {
                sentences.add(heading + " | " + sentence);
            }
        }
    }
}
