import java.io.ByteArrayOutputStream;
import java.io.IOException;
import java.io.PrintStream;
import java.nio.charset.StandardCharsets;
import java.nio.file.Files;
import java.nio.file.Path;
import java.util.ArrayList;
import java.util.List;
import java.util.stream.Stream;

/** README.md shows the example as it stands and what it prints, and names every method and every test. */
final class ReadmeTest {
    private static final Path TESTS = Path.of("src/test/java");

    private static final String PRINTED = """
        2 sites differ
        read 0 is placed at 2 to 16
        read 1 is placed at 2 to 16, backward
        read 2 is placed at 9 to 24
        A is seen 2 times at position 9
        ##fileformat=VCFv4.3
        #CHROM\tPOS\tID\tREF\tALT\tQUAL\tFILTER\tINFO\tFORMAT\tS
        ref\t10\t.\tC\tA\t51\t.\t.\tGT:DP:AD:PL\t0/1:3:1,2:51,0,41
        ref\t16\t.\tGTT\tG\t17\t.\t.\tGT:DP:AD:PL\t0/1:1:0,1:17,0,7
        """;

    private ReadmeTest() {
    }

    public static void main(String[] args) throws IOException {
        String readme = Files.readString(Path.of("README.md"));
        String example = Files.readString(TESTS.resolve("Example.java"));
        Check.same("what the example prints", printedByExample(), PRINTED);
        Check.same("README.md shows the example", readme.contains("```java\n" + example + "```\n"), true);
        Check.same("README.md shows what it prints", readme.contains("```text\n" + PRINTED + "```\n"), true);
        for (String name : namesDue()) {
            Check.same("README.md names " + name, readme.contains("`" + name), true);
        }
        Check.end();
    }

    private static String printedByExample() {
        PrintStream before = System.out;
        ByteArrayOutputStream bytes = new ByteArrayOutputStream();
        System.setOut(new PrintStream(bytes, true, StandardCharsets.UTF_8));
        Example.main(new String[0]);
        System.setOut(before);
        return bytes.toString(StandardCharsets.UTF_8).replace(System.lineSeparator(), "\n");
    }

    private static List<String> namesDue() throws IOException {
        List<String> names = new ArrayList<>(List.of("put(", "clear(", "size(", "call(", "reads(", "place(",
            "step(", "seen(", "links(", "length(", "letter("));
        try (Stream<Path> files = Files.list(TESTS)) {
            files.forEach(file -> names.add(file.getFileName().toString().replace(".java", "`")));
        }
        return names;
    }
}
