import java.lang.reflect.Method;
import java.nio.file.Files;
import java.nio.file.Path;
import java.util.Arrays;
import java.util.List;
import java.util.Set;
import java.util.TreeSet;
import java.util.stream.Collectors;
import java.util.stream.Stream;

/**
 * That the words which the tests hold stand in the document, that no sentence of it, from its first line to its last, is left
 * without a test, and that README.md tells of each of them. The public face is FaceTest's.
 */
public final class SentencesTest {
    static final List<Class<?>> TESTS = List.of(HedgeSentencesTest.class, WorkSentencesTest.class, WeekSentencesTest.class,
            ContractSentencesTest.class, TextSentencesTest.class, KeepingSentencesTest.class, ErrorSentencesTest.class,
            LookingSentencesTest.class, ForecastSentencesTest.class);

    /** What names no case: headings, signatures, and sentences that only lead to others. */
    private static final String[] WITHOUT_A_CASE = {"`(int )?\\w+\\([\\w ,]*\\)`:", "- `what`:",
        "Ahead of the calls [\\w`, ]+ the interface says:( ---- (work|contracts, coins|snapshots|text)\\.)?", "All numbers are whole\\.",
        "Money is told in coins\\.", "Weeks, work, stakes", "The constants:", "Cuts stakes out of a chain\\.", "Plants a gap\\.",
        "Grubs a chain out:", "Sets a number\\.", "Makes a contract for a field\\.", "Gives a contract back\\.", "Returns a number\\.",
        "Tells about a field\\.", "Tells about a chain\\.", "Tells in how many weeks a field is done,", "Time is reckoned simply:",
        ", and,", "Hedges that are laid chain by chain: [^.]*, snapshots and undo\\.", ";? what later calls answer is free\\.",
        "How the state is held .* nothing about an object after its 512th call\\."};

    public static void main(String[] args) throws Exception {
        if (args.length > 0) {
            TESTS.forEach(tests -> Sentences.of(tests).forEach(test -> System.out.println(line(test))));
            return;
        }
        Check check = new Check("SentencesTest");
        allTestsAreTold(check);
        readmeTellsOfEach(check);
        Path document = Path.of("../shared/DOC.md");
        if (Files.isReadable(document)) {
            wordsAreOfTheDocument(check, Files.readString(document));
        } else {
            System.out.println("SentencesTest: " + document + " is not here, so that no words are compared with it");
        }
        check.end();
    }

    private static String line(Method test) {
        return "- " + Sentences.name(test) + ": \"" + Sentences.words(test) + "\"";
    }

    private static void allTestsAreTold(Check check) throws Exception {
        Set<String> told = TESTS.stream().map(Class::getSimpleName).collect(Collectors.toCollection(TreeSet::new));
        Set<String> found = new TreeSet<>();
        try (Stream<Path> files = Files.list(Path.of("src/test/java"))) {
            files.map(file -> file.getFileName().toString()).filter(name -> name.matches("\\w+SentencesTest\\.java"))
                    .forEach(name -> found.add(name.replace(".java", "")));
        }
        check.same("the tests of sentences", told.toString(), found.toString());
    }

    private static void readmeTellsOfEach(Check check) throws Exception {
        Set<String> told = Files.readAllLines(Path.of("README.md")).stream().filter(line -> line.matches("- \\w+SentencesTest\\..*"))
                .collect(Collectors.toCollection(TreeSet::new));
        Set<String> due = TESTS.stream().flatMap(tests -> Sentences.of(tests).stream()).map(SentencesTest::line)
                .collect(Collectors.toCollection(TreeSet::new));
        for (String line : due) {
            check.due("README.md tells: " + line, told.contains(line) ? 1 : 0, 1);
        }
        told.removeAll(due);
        check.same("what README.md tells of tests that are not there", told.toString(), "[]");
    }

    private static void wordsAreOfTheDocument(Check check, String document) {
        String words = document.replaceAll("(?s)```.*?```", " ").replaceAll("\\s+", " ");
        String left = document.replaceAll("(?s)```.*?```", " ").replaceAll("(?m)^#.*$", " ").replaceAll("\\s+", " ");
        // What is marked in it is held by a test.
        char[] unheld = left.toCharArray();
        for (Class<?> tests : TESTS) {
            for (Method test : Sentences.of(tests)) {
                String held = Sentences.words(test);
                check.due("in the document stands: " + held, words.contains(held) ? 1 : 0, 1);
                for (int at = left.indexOf(held); at >= 0; at = left.indexOf(held, at + 1)) {
                    Arrays.fill(unheld, at, at + held.length(), '#');
                }
            }
        }
        String rest = new String(unheld);
        for (String caseless : WITHOUT_A_CASE) {
            rest = rest.replaceAll(caseless, " ");
        }
        check.same("the words of the document that no test holds", rest.replaceAll("[^A-Za-z0-9` ]+", " ").replaceAll("\\b\\d\\b", " ")
                .trim().replaceAll("\\s+", " "), "");
    }
}
