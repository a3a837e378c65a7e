import java.lang.reflect.Method;
import java.nio.file.Files;
import java.nio.file.Path;

/** Each promise has tests of its boundary cases, named after it, and what they quote stands in the document. */
public final class DocumentTest {
    private static final Check CHECK = new Check();
    private static final Path DOCUMENT = Path.of("../shared/DOC.md");
    private static final int PROMISES = 29;
    private static final Class<?>[] BOUNDARIES = {Boundary1BooksTest.class, Boundary2AlignmentsTest.class,
        Boundary3BandTest.class, Boundary4CostsTest.class, Boundary5SheetsTest.class, Boundary5PartsTest.class};

    public static void main(String[] args) throws Exception {
        String document = Files.readString(DOCUMENT);
        int[] tests = new int[PROMISES + 1];
        for (Class<?> boundaries : BOUNDARIES) {
            for (Method test : Boundary.testsOf(boundaries)) {
                Holds holds = test.getAnnotation(Holds.class);
                tests[holds.promise()]++;
                String begins = String.format("p%02d_", holds.promise());
                CHECK.due(test.getName() + " begins with " + begins, test.getName().startsWith(begins) ? 1 : 0, 1);
                for (String words : holds.to()) {
                    boolean stands = section(document, "Promise " + holds.promise() + ":").contains(words)
                        || section(document, "Terms").contains(words);
                    CHECK.due(test.getName() + ", the document says: " + words, stands ? 1 : 0, 1);
                }
            }
        }
        for (int promise = 1; promise <= PROMISES; promise++) {
            CHECK.due("tests of promise " + promise, tests[promise] > 0 ? 1 : 0, 1);
        }
        CHECK.end();
    }

    private static String section(String document, String heading) {
        int from = document.indexOf("\n## " + heading);
        int to = document.indexOf("\n## ", from + 1);
        return document.substring(from, to);
    }
}
