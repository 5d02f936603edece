import java.io.IOException;
import java.nio.file.Files;
import java.nio.file.Path;
import java.util.ArrayList;
import java.util.LinkedHashMap;
import java.util.List;
import java.util.Map;
import java.util.regex.Matcher;
import java.util.regex.Pattern;
import java.util.stream.Collectors;
import java.util.stream.Stream;

/**
 * Each sentence of the document has a test of its own: the tests of edges quote above themselves the
 * sentence, or the part of one, that they hold. Here it is looked whether each quotation is in the
 * document, whether each sentence is quoted, and whether the test below a quotation is run.
 */
public final class SentencesTest {
    private static final Path DOCUMENT = Path.of("../shared/DOC.md");
    private static final Path TESTS = Path.of("src/test/java");
    private static final Pattern HEADING = Pattern.compile("#+ (What it is|The file|Keys and lists|Values|Rights"
            + "|Watches|Flushes and crashes|Promise \\d+)(:.*)?");
    private static final Pattern QUOTED_TEST = Pattern.compile("(?s)/\\*\\*((?:(?!\\*/).)*?)\\*/\\s+"
            + "private static void (\\w+)\\(\\)");
    private static final Pattern QUOTATION = Pattern.compile("(What it is|The file|Keys and lists|Values|Rights"
            + "|Watches|Flushes and crashes|Promise \\d+): \"([^\"]+)\"");

    private static final Map<String, List<String>> SENTENCES = new LinkedHashMap<>();
    private static final Map<String, List<String>> QUOTATIONS = new LinkedHashMap<>();

    public static void main(String[] args) throws IOException {
        if (!Files.exists(DOCUMENT)) {
            System.out.println("SentencesTest: " + DOCUMENT + " is not there to be looked into");
            return;
        }
        readDocument();
        readTests();
        Check.due("sections of the document", SENTENCES.size(), 1 + 6 + 27);
        QUOTATIONS.forEach(SentencesTest::quotationsAreInTheDocument);
        SENTENCES.forEach(SentencesTest::sentencesAreQuoted);
        Check.end("SentencesTest");
    }

    private static void readDocument() throws IOException {
        String section = null;
        for (String line : Files.readAllLines(DOCUMENT)) {
            Matcher heading = HEADING.matcher(line);
            if (heading.matches()) {
                section = heading.group(1);
            } else if (line.startsWith("#")) {
                section = null;
            } else if (section != null && !line.isBlank() && !line.startsWith("Ahead of the calls")) {
                List<String> sentences = SENTENCES.computeIfAbsent(section, s -> new ArrayList<>());
                sentences.addAll(sentencesOf(section, line));
            }
        }
    }

    /** In a promise, a line is a sentence: of the call, of an argument, of what is returned or thrown. */
    private static List<String> sentencesOf(String section, String line) {
        if (!section.startsWith("Promise")) {
            return List.of(line.split("(?<=\\.|\\.\\))\\s+"));
        }
        return List.of(line.startsWith("`") ? line.replaceFirst("`[^`]*`: ", "") : line.replaceFirst("^- ", ""));
    }

    private static void readTests() throws IOException {
        List<Path> files;
        try (Stream<Path> all = Files.list(TESTS)) {
            files = all.filter(file -> file.toString().endsWith("EdgesTest.java")).sorted()
                    .collect(Collectors.toList());
        }
        for (Path file : files) {
            String text = Files.readString(file);
            Matcher test = QUOTED_TEST.matcher(text);
            while (test.find()) {
                readQuotations(test.group(1).replaceAll("\\s*\n\\s*\\*\\s*", " "));
                boolean isRun = text.contains("\n        " + test.group(2) + "();");
                Check.due(file + " runs " + test.group(2) + "()", isRun, true);
            }
        }
    }

    private static void readQuotations(String comment) {
        Matcher quotation = QUOTATION.matcher(comment);
        while (quotation.find()) {
            QUOTATIONS.computeIfAbsent(quotation.group(1), s -> new ArrayList<>()).add(quotation.group(2));
        }
    }

    private static void quotationsAreInTheDocument(String section, List<String> quotations) {
        List<String> sentences = SENTENCES.getOrDefault(section, List.of());
        for (String quotation : quotations) {
            if (sentences.stream().noneMatch(sentence -> sentence.contains(quotation))) {
                Check.fail(section + " does not say: " + quotation);
            }
        }
    }

    private static void sentencesAreQuoted(String section, List<String> sentences) {
        List<String> quotations = QUOTATIONS.getOrDefault(section, List.of());
        for (String sentence : sentences) {
            if (quotations.stream().noneMatch(sentence::contains)) {
                Check.fail("no test quotes what " + section + " says: " + sentence);
            }
        }
    }
}
