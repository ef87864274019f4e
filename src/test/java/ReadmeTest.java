import java.io.IOException;
import java.nio.file.Files;
import java.nio.file.Path;

/** The example of README.md: its lines stand here as well, and answer as it says. */
public final class ReadmeTest extends TestOfBlinds {
    private static final Path README = Path.of("README.md");
    private static final Path HERE = Path.of("src/test/java/ReadmeTest.java");

    public static void main(String[] args) throws IOException {
        ReadmeTest test = new ReadmeTest();
        test.linesStandHere(Files.readString(README), Files.readString(HERE));
        test.example();
        test.checks.end();
    }

    private void linesStandHere(String readme, String here) {
        int start = readme.indexOf("```java");
        int end = readme.indexOf("```", start + 1);
        checks.holds("README.md has an example", start >= 0 && end > start);
        if (start >= 0 && end > start) {
            for (String line : readme.substring(start + "```java".length(), end).split("\n")) {
                String code = line.replaceAll("//.*", "").trim();
                checks.holds("'" + code + "' of README.md stands in ReadmeTest", here.contains("    " + code + "\n")
                    || code.isEmpty());
            }
        }
    }

    private void example() {
        FlippedBlinds blinds = new FlippedBlinds();
        int word = blinds.word(1 * 32 + 2);
        due("its number", word, 0);
        int shift = blinds.show(word, 0);
        due("the shift", shift, 0);
        int bright = blinds.blindOf(0, 0);
        due("bright discs", bright, 20);
        int error = blinds.word(1 * 32 + 2);
        due("the same word once more", error, FlippedBlinds.NOT_POSSIBLE);
        int before = blinds.undo();
        due("states left", before, 1);
        due("dark again", blinds.blindOf(0, 0), 0);
        for (char sign : "wc;s1,1;".toCharArray()) {
            blinds.type(sign);
        }
        int fault = blinds.fault(0);
        due("no fault", fault, FlippedBlinds.NOT_FOUND);
        int orders = blinds.play();
        due("orders", orders, 2);
        due("word 1", blinds.wordOf(1, 0), 3);
        due("shown on blind 1", blinds.blindOf(1, 4), 1);
        due("one change", blinds.count(5), 2);
        int cause = blinds.fault(2);
        due("the word is there already", cause, FlippedBlinds.NOT_POSSIBLE);
    }
}
