import java.io.IOException;
import java.nio.file.Files;
import java.nio.file.Path;
import java.util.regex.Matcher;
import java.util.regex.Pattern;

/** The example of README.md: every answer that it tells is the one that the class gives. */
public final class ReadmeTest {
    private static final Check CHECK = new Check();
    private static final Pattern LETTERS = Pattern.compile("for \\(char c : \"(.*)\"\\.toCharArray\\(\\)\\) \\{");
    private static final Pattern CALL = Pattern.compile("x\\.(\\w+)\\(([-\\d, ]*)\\); +// (-?\\d+): .*");

    public static void main(String[] args) throws IOException {
        String readme = Files.readString(Path.of("README.md"));
        String block = readme.substring(readme.indexOf("```java\n") + 8);
        String[] lines = block.substring(0, block.indexOf("```")).split("\n");
        CHECK.due("the first line makes an object", lines[0].equals("BeadWords x = new BeadWords();") ? 1 : 0, 1);
        BeadWords x = new BeadWords();
        int calls = 0;
        for (int i = 1; i < lines.length; i++) {
            Matcher letters = LETTERS.matcher(lines[i]);
            Matcher call = CALL.matcher(lines[i]);
            if (letters.matches()) {
                CHECK.due("it feeds each letter", (lines[i + 1] + lines[i + 2]).equals("    x.feed(c);}") ? 1 : 0, 1);
                Check.feed(x, letters.group(1));
                i += 2;
            } else {
                CHECK.due("a call with its answer: " + lines[i], call.matches() ? 1 : 0, 1);
                ask(x, call);
                calls++;
            }
        }
        CHECK.due("the example has calls", calls > 0 ? 1 : 0, 1);
        CHECK.due("it names the command", readme.contains("    .ci/run\n") ? 1 : 0, 1);
        CHECK.end();
    }

    private static void ask(BeadWords x, Matcher call) {
        int[] given = new int[4];
        String[] numbers = call.group(2).isEmpty() ? new String[0] : call.group(2).split(", ");
        for (int i = 0; i < numbers.length; i++) {
            given[i] = Integer.parseInt(numbers[i]);
        }
        int which = Face.numberOf(call.group(1));
        CHECK.due("numbers given to " + call.group(), numbers.length, Face.TAKES[which]);
        CHECK.due(call.group(), Face.ask(x, which, given[0], given[1], given[2], given[3]), Integer.parseInt(call.group(3)));
    }
}
