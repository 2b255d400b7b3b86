import java.io.ByteArrayOutputStream;
import java.io.IOException;
import java.io.PrintStream;
import java.nio.file.Files;
import java.nio.file.Path;

/** What README.md shows: its example is Example.java word for word, and it prints what the document asks for. */
final class ReadmeTest {
    /**
     * Told by hand from the document. Vectors 0 .. 3 are (a, b) = 00, 10, 01, 11. Circuit 0: sum 0110, carry 0001.
     * Circuit 1: gates 6 = 0100, 8 = 0010, 10 = 1001, 12 = 14 = 1000; outputs 11 = 0110 and 15 = 0111.
     */
    private static final String[] DUE = {
        "load(0): 0",
        "load(1): 0",
        // the sums are the same, the carries 0001 and 0111 are not, at vector 1 first
        "compare(): 1",
        "witness(0): -1",
        "witness(1): 1",
        "value(0, 6, 1): 0",
        "value(1, 15, 1): 1",
        "same(10, 10): -1",
        "least(0, 10, 2): 2",
        "greatest(0, 10): 2",
        "implies(1, 6, 15): true",
        "depends(0, 10, 1): true",
        "rises(0, 6, 1): 1",
        "rises(0, 10, 1): 0",
        // 12 and 14 have depth 1 both, 12 is the less
        "leader(1, 15): 13",
        // 0000, the two inputs, 0100, 0010, 1001, 1000; circuit 0 has 0001 besides
        "functions(1): 7",
        "allFunctions(): 8",
        // of depth 1 are 6, 8 and 12, of depth 2 is 10
        "write(1, false, true): 50",
        "aag 6 2 0 2 4",
        "2",
        "4",
        "13",
        "11",
        "6 5 2",
        "8 4 3",
        "10 5 3",
        "12 9 7",
        // an input's literal is odd; its number begins at byte 14
        "load(1): 6",
        "look(1, 4): 6",
        "look(1, 5): 14",
        "look(1, 1): 5",
        "witness(2): there is no such output",
    };

    public static void main(String[] args) throws IOException {
        String readme = Files.readString(Path.of("README.md"));
        String example = Files.readString(Path.of("src/test/java/Example.java"));
        Check.due("the example in README.md", example, () -> block(readme, "java"));
        String due = String.join("\n", DUE) + "\n";
        Check.due("what README.md says that it prints", due, () -> block(readme, "text"));
        Check.due("what it prints", due, ReadmeTest::printed);
        Check.end();
    }

    /** The first block of a kind. */
    private static String block(String readme, String kind) {
        String opening = "```" + kind + "\n";
        int start = readme.indexOf(opening) + opening.length();
        return readme.substring(start, readme.indexOf("```", start));
    }

    private static String printed() {
        PrintStream before = System.out;
        ByteArrayOutputStream caught = new ByteArrayOutputStream();
        System.setOut(new PrintStream(caught, true));
        try {
            Example.main(new String[0]);
        } finally {
            System.setOut(before);
        }
        return caught.toString().replace(System.lineSeparator(), "\n");
    }
}
