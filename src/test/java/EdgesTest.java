import java.io.IOException;
import java.nio.file.Files;
import java.nio.file.Path;
import java.util.TreeSet;
import java.util.regex.Matcher;
import java.util.regex.Pattern;

/** Whether the tests of boundary cases name each promise. */
public final class EdgesTest {
    private static final Check CHECK = new Check();

    private EdgesTest() {
    }

    public static void main(String[] args) throws IOException {
        TreeSet<Integer> named = new TreeSet<>();
        for (String part : new String[] {"Text", "Steps", "Calls", "Questions"}) {
            String text = Files.readString(Path.of("src/test/java/EdgesOf" + part + "Test.java"));
            Matcher sentences = Pattern.compile("EDGES\\.sentence\\(\"([0-9, ]+)\"").matcher(text);
            while (sentences.find()) {
                for (String promise : sentences.group(1).split(", ")) {
                    named.add(Integer.valueOf(promise));
                }
            }
        }
        CHECK.begin("the boundary cases");
        for (int promise = 1; promise <= 30; promise++) {
            CHECK.is("promise " + promise + " is named", named.contains(promise), true);
        }
        CHECK.is("no other is", named.size(), 30);
        CHECK.end();
    }
}
