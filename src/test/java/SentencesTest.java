import java.io.IOException;
import java.nio.file.Files;
import java.nio.file.Path;
import java.util.ArrayList;
import java.util.List;
import java.util.stream.Stream;

/** The sentences that the edge tests stand by are all those of the document, and each of them has a test. */
final class SentencesTest {
    private static final Path DOCUMENT = Path.of("../shared/DOC.md");
    private static final Path TESTS = Path.of("src/test/java");

    public static void main(String[] args) throws IOException {
        theyAreTheDocuments();
        eachHasATest();
        Check.end();
    }

    private static void theyAreTheDocuments() throws IOException {
        if (!Files.exists(DOCUMENT)) {
            System.out.println("the document is not at " + DOCUMENT + ", its sentences were not compared");
            return;
        }
        List<String> all = new ArrayList<>();
        for (Sentence s : Sentence.values()) {
            all.add(s.words);
        }
        Check.due("the document", String.join(" ", all), plain(Files.readString(DOCUMENT)));
    }

    /** The document in one line, without headings, the public face, the methods' lines and what is not promised. */
    private static String plain(String document) {
        return document
            .replaceAll("(?s)```java.*?```", "")
            .replaceAll("(?s)## Not promised.*", "")
            .replaceAll("(?m)^#+ .*$", "")
            .replaceAll("(?m)^```.*$", "")
            .replaceAll("(?m)^`[^`]*`: ", "")
            .replaceAll("\\s+", " ")
            .trim();
    }

    private static void eachHasATest() throws IOException {
        StringBuilder tests = new StringBuilder();
        try (Stream<Path> files = Files.list(TESTS)) {
            for (Path file : files.filter(f -> f.getFileName().toString().matches("Edge.*Test\\.java")).toList()) {
                tests.append(Files.readString(file));
            }
        }
        for (Sentence s : Sentence.values()) {
            Check.due("a test of " + s, tests.indexOf("Edge.of(Sentence." + s + ")\n") >= 0, true);
        }
    }
}
