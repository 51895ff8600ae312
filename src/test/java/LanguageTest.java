import java.io.IOException;
import java.nio.file.Files;
import java.nio.file.Path;
import java.util.List;

/** Rules of LANGUAGE.md that the lines of the class tell; run from the project's folder. */
public final class LanguageTest {
    private static final Check CHECK = new Check();
    private static final String[] RULED_OUT = {"\\bthrow\\b", "\\btry\\b", "\\bcatch\\b", "\\bsynchronized\\b",
        "\\bassert\\b", "->", "::", "\\bimport\\b", "\\bpackage\\b", "\\bprotected\\b", "\\bequals\\b", "\\bhashCode\\b",
        "\\btoString\\b", "Exact\\b", "while \\(true\\)", "for \\(;;\\)"};

    public static void main(String[] args) throws IOException {
        List<String> lines = Files.readAllLines(Path.of("src/main/java/BeadWords.java"));
        String method = "";
        int from = 0;
        int classes = 0;
        for (int i = 0; i < lines.size(); i++) {
            String line = lines.get(i);
            for (String sign : RULED_OUT) {
                CHECK.due("line " + (i + 1) + " has " + sign, line.matches(".*" + sign + ".*") ? 1 : 0, 0);
            }
            CHECK.due("line " + (i + 1) + " has signs 32 to 126", line.matches("[ -~]*") ? 1 : 0, 1);
            classes += line.matches(".*\\bclass \\w+ \\{") ? 1 : 0;
            if (line.matches(" {4,8}[a-z].*\\) \\{")) {
                method = line.strip();
                from = i;
            }
            if (line.matches(" {4,8}\\}") && !method.isEmpty()) {
                CHECK.due("more than 60 lines in " + method, i - from > 60 ? 1 : 0, 0);
                method = "";
            }
        }
        CHECK.due("more than 12 classes", classes > 12 ? 1 : 0, 0);
        CHECK.end();
    }
}
