import java.io.IOException;
import java.lang.reflect.Method;
import java.nio.file.Files;
import java.nio.file.Path;
import java.util.List;

/** Each quoted sentence stands in the document, and each promise has tests of its boundary sentences. */
public final class SentencesTest {
    private static final int PROMISES = 59;
    private static final List<Class<?>> ALL = List.of(EdgesOfTapeTest.class, EdgesOfCountyTest.class,
            EdgesOfLawTest.class, EdgesOfYearsTest.class, EdgesOfActsTest.class, EdgesOfWaysTest.class,
            EdgesOfTopsTest.class, EdgesOfFamiliesTest.class, EdgesOfStateTest.class);

    public static void main(String[] args) throws IOException {
        String document = document();
        int[] tests = new int[PROMISES + 1];
        for (Class<?> edges : ALL) {
            for (Method test : Edges.of(edges)) {
                Says says = test.getAnnotation(Says.class);
                boolean isPromise = says.promise() >= 1 && says.promise() <= PROMISES;
                Kit.due(test.getName() + " is of a promise", isPromise, true);
                boolean stands = document.isEmpty() || document.contains(says.sentence());
                Kit.due("the document says \"" + says.sentence() + "\"", stands, true);
                tests[isPromise ? says.promise() : 0]++;
            }
        }
        for (int promise = 1; promise <= PROMISES; promise++) {
            Kit.due("promise " + promise + " has a test", tests[promise] > 0, true);
        }
        Kit.close("SentencesTest");
    }

    /** Empty where there is none: then the quotes cannot be looked up, but the promises still are. */
    private static String document() throws IOException {
        Path path = Path.of("../shared/DOC.md");
        if (!Files.exists(path)) {
            System.out.println("SentencesTest: no " + path + " to look the sentences up in");
            return "";
        }
        return Files.readString(path).replaceAll("\\s+", " ");
    }
}
