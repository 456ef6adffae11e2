import java.io.IOException;
import java.nio.file.Files;
import java.nio.file.Path;
import java.util.List;
import java.util.regex.Pattern;

/** What of LANGUAGE.md can be seen in the lines of the class. */
public final class SourceTest {
    private static final String[] BARRED = {"->", "::", "\\bcatch\\b", "\\btry\\b", "\\bfinally\\b", "\\bsynchronized\\b",
        "\\bassert\\b", "System\\.(?!arraycopy)", "Exact\\b", "\\bnull\\b", "\\binstanceof\\b", "@", "\\bpackage\\b",
        "\\bprotected\\b", "\\bdouble\\b", "\\bfloat\\b", "values\\(\\)", "\" \\+", "\\+ \"", "\\bstatic \\{"};
    private static final int MOST_LINES = 60;

    private SourceTest() {
    }

    public static void main(String[] args) throws IOException {
        List<String> lines = Files.readAllLines(Path.of("src/main/java/MooringDesk.java"));
        int begun = -1;
        int classes = 0;
        for (int i = 0; i < lines.size(); i++) {
            String line = lines.get(i);
            String code = line.replaceAll("//.*|/\\*\\*.*", "");
            for (String barred : BARRED) {
                Check.due("line " + (i + 1) + " has " + barred, Pattern.compile(barred).matcher(code).find(), false);
            }
            Check.due("line " + (i + 1) + " is short", line.length() <= 120, true);
            for (char sign : line.toCharArray()) {
                Check.due("line " + (i + 1) + " is plain", sign < 127, true);
            }
            if (code.startsWith("import ")) {
                Check.due(code, code.equals("import java.util.Arrays;") || code.equals("import java.util.NoSuchElementException;"), true);
            }
            classes += code.contains(" class ") ? 1 : 0;
            if (code.matches(" +(public |private |static )*[\\w\\[\\]]+ ?\\w*\\(.*\\) .*\\{") && !code.matches(" +(if|for|while|switch|else).*")) {
                begun = i;
                Check.due("line " + (i + 1) + ": seven parameters", code.split(",").length <= 7, true);
            }
            if (code.matches(" {4}( {4})?\\}") && begun >= 0) {
                Check.due("the method at line " + (begun + 1) + " is short", i - begun <= MOST_LINES, true);
                begun = -1;
            }
            // Objects are made in constructors and at fields alone, so that no call fills the room.
            if (code.contains("new ")) {
                boolean isField = code.matches(" +(private )?(final )?[\\w\\[\\]]+ \\w+ = new .*");
                boolean isThrown = code.contains("throw new NoSuchElementException();");
                boolean isFilled = code.matches(" +(scripts|holds)\\[i\\] = new \\w+\\(\\);");
                Check.due("line " + (i + 1) + " makes an object", isField || isThrown || isFilled, true);
            }
        }
        Check.due("twelve classes", classes <= 12, true);
        Check.finish("SourceTest");
    }
}
