import java.io.IOException;
import java.nio.file.Files;
import java.nio.file.Path;
import java.util.ArrayList;
import java.util.List;
import java.util.regex.Matcher;
import java.util.regex.Pattern;
import java.util.stream.Collectors;
import java.util.stream.Stream;

/**
 * What README.md says is so: its example stands here too, line by line, and answers what is told
 * behind each line; the tests that it names are there, and it names those that are there.
 */
public final class ReadmeTest {
    private static final Path README = Path.of("README.md");
    private static final Path TESTS = Path.of("src/test/java");
    private static final Pattern EXAMPLE = Pattern.compile("(?s)```java\n(.*?)```");
    private static final Pattern LINE = Pattern.compile("(.*;)(?: +// (true|false|-?\\d+)(?:: .*)?)?");

    public static void main(String[] args) throws IOException {
        String readme = Files.readString(README);
        exampleAnswersWhatIsTold(exampleOf(readme));
        namedTestsAreThere(readme);
        allTestsAreNamed(readme);
        Check.end("ReadmeTest");
    }

    private static List<String> exampleOf(String readme) {
        Matcher example = EXAMPLE.matcher(readme);
        if (!example.find()) {
            Check.fail("README.md has no example");
            return List.of();
        }
        return example.group(1).lines().collect(Collectors.toList());
    }

    private static void exampleAnswersWhatIsTold(List<String> example) throws IOException {
        List<String> code = new ArrayList<>();
        List<String> told = new ArrayList<>();
        for (String text : example) {
            Matcher line = LINE.matcher(text);
            if (!line.matches()) {
                Check.fail("README.md's example has a line of another form: " + text);
            } else {
                code.add(line.group(1));
                told.add(line.group(2));
            }
        }
        List<String> answers = new ArrayList<>();
        answers.add(null); // the first line makes the object
        answers.addAll(runExample());
        if (!code.equals(linesRunHere())) {
            Check.fail("README.md's example is not the one that is run here: " + code);
        }
        if (!told.equals(answers)) {
            Check.fail("README.md's example answers " + answers + ", told is " + told);
        }
    }

    private static List<String> runExample() {
        // the example begins
        HiveKeys registry = new HiveKeys();
        int software = registry.make(0, 17);
        int link = registry.makeLink(0, 18, software);
        int found = registry.find(0, 17);
        int reached = registry.follow(link);
        boolean isNew = registry.watch(0, 2, true);
        int values = registry.setValue(software, 3, 20, 5);
        int number = registry.unit(software, 3, 19);
        int notice = registry.takeNotice();
        int before = registry.setRights(software, 7);
        int sharers = registry.sharers(0);
        int writes = registry.flush();
        int left = registry.write(writes);
        int units = registry.delete(software);
        int lost = registry.follow(link);
        int whole = registry.crash();
        int again = registry.follow(link);
        // the example ends
        return Stream.of(software, link, found, reached, isNew, values, number, notice, before, sharers,
                writes, left, units, lost, whole, again).map(String::valueOf).collect(Collectors.toList());
    }

    private static List<String> linesRunHere() throws IOException {
        List<String> all = Files.readAllLines(TESTS.resolve("ReadmeTest.java"));
        int begin = all.indexOf("        // the example begins");
        int end = all.indexOf("        // the example ends");
        return all.subList(begin + 1, end).stream().map(String::trim).collect(Collectors.toList());
    }

    private static void namedTestsAreThere(String readme) {
        Matcher name = Pattern.compile("`(\\w+Test|Check|Counted|Builds|Twins)`|hivekeys (\\w+Test)\\b").matcher(readme);
        int named = 0;
        while (name.find()) {
            String test = name.group(1) != null ? name.group(1) : name.group(2);
            Check.due(test + " is there", Files.exists(TESTS.resolve(test + ".java")), true);
            named++;
        }
        Check.due("README.md names tests", named > 0, true);
    }

    private static void allTestsAreNamed(String readme) throws IOException {
        try (Stream<Path> files = Files.list(TESTS)) {
            for (Path file : files.sorted().collect(Collectors.toList())) {
                String name = file.getFileName().toString().replace(".java", "");
                boolean isNamed = name.endsWith("EdgesTest") // these are named by one pattern
                        || readme.contains("`" + name + "`") || readme.contains("`" + name + ".java`");
                Check.due("README.md tells of " + name, isNamed, true);
            }
        }
    }
}
