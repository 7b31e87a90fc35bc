import java.io.IOException;
import java.nio.file.Files;
import java.nio.file.Path;
import java.util.LinkedHashSet;
import java.util.Set;

/**
 * Each sentence of the document has a test of its own under its own words: its boundary cases, and what a refused call
 * leaves. What the document says and no test does, or the other way around, is told as well.
 */
public final class SentencesTest {
    private static final Path DOCUMENT = Path.of("../shared/DOC.md");

    /** Headings, and sentences that say nothing that a call could break. */
    private static final Set<String> PLAIN = Set.of(
            "0: Two rows of signs lined up by words that occur once in both: anchors and turned anchors, the longest "
                    + "chain of anchors that fit, gaps between them that are closed at least cost within a band, the "
                    + "cost without anchors, places that are lined up, stretches that are turned, stretches that are "
                    + "doubled, the best length of words, what would be, rows as texts with errors by place, "
                    + "snapshots, and undo.",
            "0: Rows, words", "0: Gaps, costs", "0: Snapshots, undo",
            "0: How the state is held inside the object is free, as are the speed of each call, the text of toString "
                    + "and the behaviour of equals and hashCode.",
            "0: Use of one object from several threads at once is not promised to be safe.",
            "0: Nothing is promised beyond the answers and state changes described above, and nothing about an object "
                    + "after its 512th call.");

    public static void main(String[] args) throws IOException {
        FaceSentences.all();
        TermSentences.all();
        GapSentences.all();
        RowSentences.all();
        TextSentences.all();
        UndoSentences.all();
        ExceptionSentences.all();
        LookSentences.all();
        WouldBeSentences.all();
        Due.endSentence();
        Due.same("sentences without a comparison", Due.untried().toString(), "[]");
        if (Files.exists(DOCUMENT)) {
            compare(sentences(Files.readString(DOCUMENT)), Due.said());
            FaceSentences.sameAsWritten(Files.readString(DOCUMENT));
        }
        Due.end();
    }

    private static void compare(Set<String> written, Set<String> said) {
        for (String sentence : written) {
            boolean tested = said.contains(sentence) || PLAIN.contains(sentence);
            Due.same("the test of \"" + sentence + "\"", tested ? "there" : "not there", "there");
        }
        for (String sentence : said) {
            String found = written.contains(sentence) ? "there" : "not there";
            Due.same("\"" + sentence + "\" in the document", found, "there");
        }
    }

    /** The face is compared by itself; a call's own line is told without its head. */
    private static Set<String> sentences(String document) {
        Set<String> sentences = new LinkedHashSet<>();
        int promise = 0;
        for (String line : document.replaceAll("(?s)```.*?```", "").split("\n")) {
            if (line.startsWith("#")) {
                promise = line.startsWith("## Promise ") ? Integer.parseInt(line.split("[ :]")[2]) : 0;
            } else {
                String words = line.replaceAll("^`[^`]*`: |^- ", "").replace("`", "").trim();
                for (String sentence : words.split("(?<=\\.|\\.\\)) +(?=[A-Z(])")) {
                    sentences.add(promise + ": " + sentence);
                }
            }
        }
        sentences.removeIf(sentence -> sentence.endsWith(": "));
        return sentences;
    }
}
