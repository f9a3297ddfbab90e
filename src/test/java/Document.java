import java.io.IOException;
import java.nio.file.Files;
import java.nio.file.Path;
import java.util.ArrayList;
import java.util.List;

/** The document's sentences, by the headings that they stand under. */
final class Document {
    private static final String END_OF_SENTENCE = "(?<=[^. ])\\.(?=[ )]|$)";

    private final List<String> headings = new ArrayList<>();
    private final List<String> lines = new ArrayList<>();

    Document(Path file) throws IOException {
        String heading = "";
        for (String line : Files.readAllLines(file)) {
            if (line.startsWith("## ")) {
                heading = line.substring(3);
            } else if (!line.startsWith("```")) {
                headings.add(heading);
                lines.add(line.strip());
            }
        }
    }

    private static boolean isOf(String heading, int promise) {
        return heading.startsWith("Promise " + promise + ":");
    }

    private static boolean isOfAll(String heading) {
        return heading.equals("What it is") || heading.equals("Terms");
    }

    /** Whether these words stand under the promise or under what is said for all of them. */
    boolean says(int promise, String words) {
        for (int i = 0; i < lines.size(); i++) {
            if ((isOf(headings.get(i), promise) || isOfAll(headings.get(i))) && lines.get(i).contains(words)) {
                return true;
            }
        }
        return false;
    }

    /** The sentences under a promise; for promise 0 those of 'Terms'. */
    List<String> sentences(int promise) {
        List<String> found = new ArrayList<>();
        for (int i = 0; i < lines.size(); i++) {
            String heading = headings.get(i);
            if (promise == 0 ? heading.equals("Terms") : isOf(heading, promise)) {
                for (String sentence : lines.get(i).split(END_OF_SENTENCE)) {
                    addSentence(found, sentence.strip());
                }
            }
        }
        return found;
    }

    /** A title, in capitals alone, says nothing. */
    private static void addSentence(List<String> found, String sentence) {
        if (sentence.matches(".*[a-z].*")) {
            found.add(sentence);
        }
    }
}
