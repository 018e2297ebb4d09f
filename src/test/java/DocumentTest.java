import java.io.IOException;
import java.lang.reflect.Method;
import java.nio.file.Files;
import java.nio.file.Path;
import java.util.Map;
import java.util.Set;
import java.util.TreeMap;
import java.util.TreeSet;
import java.util.regex.Matcher;
import java.util.regex.Pattern;

/** Each sentence that a test is for stands in the document, and each refusal that a promise names has a test. */
public final class DocumentTest {
    private static final Path DOCUMENT = Path.of("../shared/DOC.md");
    private static final int PROMISES = 43;
    private static final Class<?>[] TESTS = {TreeEdgesTest.class, OrderEdgesTest.class, ShelfEdgesTest.class,
        TextEdgesTest.class, NothingChangesTest.class};
    /** BELOW is a term, too; as a refusal it is told with a colon. */
    private static final Pattern REFUSALS = Pattern.compile("\\b(NONE|BAD|STATE|FULL|NOT|EMPTY|OTHER|MISSING|PLACE|VOID|BELOW(?=:))\\b");

    private static int wrong = 0;
    private static int asked = 0;

    private DocumentTest() {
    }

    private static void due(String what, boolean so) {
        asked++;
        if (!so) {
            wrong++;
            System.out.println(what);
        }
    }

    private static String oneLine(String text) {
        return text.replaceAll("\\s+", " ");
    }

    private static String sectionOf(String document, int promise) {
        Matcher found = Pattern.compile("(?s)## Promise " + promise + ":(.*?)(?=\n## |\\z)").matcher(document);
        return found.find() ? oneLine(found.group(1)) : "";
    }

    private static Set<String> refusalsIn(String text) {
        Set<String> found = new TreeSet<>();
        Matcher matcher = REFUSALS.matcher(text);
        while (matcher.find()) {
            found.add(matcher.group(1));
        }
        return found;
    }

    public static void main(String[] args) throws IOException {
        String document = Files.readString(DOCUMENT);
        Map<Integer, Set<String>> tested = new TreeMap<>();
        for (Class<?> tests : TESTS) {
            for (Method m : Edges.testsOf(tests)) {
                Edges.Says says = m.getAnnotation(Edges.Says.class);
                String place = says.promise() == 0 ? oneLine(document) : sectionOf(document, says.promise());
                due("the document does not say \"" + says.words() + "\": " + m.getName(), place.contains(says.words()));
                tested.computeIfAbsent(says.promise(), p -> new TreeSet<>()).addAll(refusalsIn(says.words()));
            }
        }
        for (int promise = 1; promise <= PROMISES; promise++) {
            String section = sectionOf(document, promise);
            due("the document has no promise " + promise, !section.isEmpty());
            due("promise " + promise + " has no test", tested.containsKey(promise));
            Set<String> untested = refusalsIn(section);
            untested.removeAll(tested.getOrDefault(promise, Set.of()));
            due("promise " + promise + " has no test of " + untested, untested.isEmpty());
        }
        System.out.println(asked + " sentences looked up, " + wrong + " wrong");
        if (wrong != 0) {
            System.exit(1);
        }
    }
}
