import java.io.IOException;
import java.nio.file.Files;
import java.nio.file.Path;
import java.util.ArrayList;
import java.util.List;
import java.util.regex.Matcher;
import java.util.regex.Pattern;

/** Runs the tests that are named by promises and sentences; then each sentence of the document must have one. */
public final class PromisesTest {
    private static final Path DOCUMENT = Path.of("../shared/DOC.md");
    /** The number of the Description, whose sentences may be tested under any promise. */
    private static final int DESCRIPTION = 0;
    /** What is in the Description and promises nothing: headings, and the words before a list. */
    private static final Pattern NO_SENTENCE =
        Pattern.compile("[A-Z ]+|The constants:|The constructor and the methods follow.*");

    public static void main(String[] args) throws IOException {
        PointPromises.tests();
        SquarePromises.tests();
        DistancePromises.tests();
        ScriptPromises.tests();
        List<Promise.Name> sentences = sentences();
        Check.due("promises in the document", 26, sentences.get(sentences.size() - 1).promise());
        eachSentenceHasTest(sentences);
        eachTestHasSentence();
        System.out.println(Promise.names().size() + " tests of " + sentences.size() + " sentences");
        Check.close("PromisesTest");
    }

    private static void eachSentenceHasTest(List<Promise.Name> sentences) {
        for (Promise.Name sentence : sentences) {
            boolean tested = false;
            for (Promise.Name test : Promise.names()) {
                boolean itsPromise = sentence.promise() == DESCRIPTION || sentence.promise() == test.promise();
                tested |= itsPromise && sentence.sentence().contains(test.sentence());
            }
            Check.same("promise " + sentence.promise() + ", \"" + sentence.sentence() + "\"",
                tested ? "a test" : "no test",
                "a test");
        }
    }

    private static void eachTestHasSentence() throws IOException {
        String document = Files.readString(DOCUMENT);
        for (Promise.Name test : Promise.names()) {
            Check.same("promise " + test.promise() + ", \"" + test.sentence() + "\"",
                document.contains(test.sentence()) ? "in the document" : "not in the document", "in the document");
        }
    }

    /** The sentences of the Description and of the promises; a line of a list is one, too. */
    private static List<Promise.Name> sentences() throws IOException {
        Pattern heading = Pattern.compile("## (?:Description|Promise (\\d+):.*)");
        List<Promise.Name> sentences = new ArrayList<>();
        int promise = -1;
        for (String line : Files.readAllLines(DOCUMENT)) {
            Matcher matcher = heading.matcher(line);
            if (matcher.matches()) {
                promise = matcher.group(1) == null ? DESCRIPTION : Integer.parseInt(matcher.group(1));
            } else if (line.startsWith("#")) {
                promise = -1;
            } else if (promise >= 0 && !line.isBlank() && !line.startsWith("`") && !line.startsWith("----")) {
                addSentences(sentences, promise, line);
            }
        }
        return sentences;
    }

    private static void addSentences(List<Promise.Name> sentences, int promise, String line) {
        for (String sentence : line.split("(?<=\\.) (?=[A-Z(])")) {
            if (!NO_SENTENCE.matcher(sentence).matches()) {
                sentences.add(new Promise.Name(promise, sentence));
            }
        }
    }
}
