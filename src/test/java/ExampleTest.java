import java.io.ByteArrayOutputStream;
import java.io.IOException;
import java.io.PrintStream;
import java.nio.charset.StandardCharsets;
import java.nio.file.Files;
import java.nio.file.Path;

/** README.md shows the example as it stands, and what it prints. */
public final class ExampleTest {
    private static final Due due = new Due();

    /** What stands between that opening line and the next fence. */
    private static String block(String page, String opening) {
        int start = page.indexOf("```" + opening + "\n");
        due.is("README.md has a block of " + opening, start >= 0, true);
        if (start < 0) {
            return "";
        }
        int from = page.indexOf('\n', start) + 1;
        return page.substring(from, page.indexOf("```", from));
    }

    private static String printed() {
        PrintStream before = System.out;
        ByteArrayOutputStream bytes = new ByteArrayOutputStream();
        System.setOut(new PrintStream(bytes, true, StandardCharsets.UTF_8));
        Example.main(new String[0]);
        System.setOut(before);
        return bytes.toString(StandardCharsets.UTF_8).replace("\r\n", "\n");
    }

    /** Worked out by hand from the document. */
    private static final String[] LINES = {
        "tell: 0",
        "readers of row 0, as bits: 3",
        "readers of row 1, as bits: 2",
        "roles that 0 lacks to see row 1, as bits: 2",
        "query of the table: 0",
        "rows of the answer, as bits: 1",
        "step 0: kind 2, cost 3, silent 1, told 1, done 3",
        "step 1: kind 0, cost 8, silent 0, told 1, done 3",
        "step 2: kind 2, cost 4, silent 0, told 1, done 1",
        "query of view 0: 0",
        "it failed at row 1, step 2",
        "role 1 updates row 1: 1",
        "role 0 deletes row 1: 0",
        "acts left when one is undone: 0",
        "a text with a fault: 3 at 13",
    };

    public static void main(String[] args) throws IOException {
        String page = Files.readString(Path.of("README.md"));
        String example = Files.readString(Path.of("src/test/java/Example.java"));
        due.is("README.md shows the example", block(page, "java").equals(example), true);
        String lines = String.join("\n", LINES) + "\n";
        due.is("what the example prints", printed(), lines);
        due.is("what README.md says that it prints", block(page, "text"), lines);
        due.end("ExampleTest");
    }
}
