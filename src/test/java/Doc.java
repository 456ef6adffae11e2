import java.io.IOException;
import java.nio.file.Files;
import java.nio.file.Path;
import java.util.regex.Matcher;
import java.util.regex.Pattern;

/**
 * The document's sentences: a test says which one it holds to, and what no test has said comes to light.
 * Section 0 is the terms (with the sentence on 512 calls), sections 1 to 40 are the promises.
 */
final class Doc {
    private static final Path PATH = Path.of("../shared/DOC.md");
    private static final int PROMISES = 40;
    private static final String[] SECTIONS = new String[PROMISES + 1];
    private static final boolean[][] SAID = new boolean[PROMISES + 1][];
    private static String latest = "";

    private Doc() {
    }

    static void read() throws IOException {
        if (!Files.exists(PATH)) {
            System.out.println("there is no " + PATH + ": what the tests say of it is not compared with it");
            return;
        }
        String all = Files.readString(PATH);
        String terms = between(all, "## Terms", "## Promise 1:").replace("```text", " ").replace("```", " ");
        put(0, "An object is used" + between(all, "An object is used", "## The public face") + terms);
        for (int i = 1; i <= PROMISES; i++) {
            String body = between(all, "## Promise " + i + ":", i < PROMISES ? "## Promise " + (i + 1) + ":" : "## Not promised");
            Matcher signature = Pattern.compile("`[^`]*`: ").matcher(body);
            Check.due("promise " + i + " has a signature", signature.find(), true);
            put(i, body.substring(signature.end()));
        }
    }

    private static String between(String all, String from, String to) {
        int start = all.indexOf(from);
        int end = all.indexOf(to, start);
        Check.due("the document has " + from, start >= 0 && end > start, true);
        return all.substring(start + from.length(), end);
    }

    private static void put(int section, String text) {
        SECTIONS[section] = text.replaceAll("\\s+", " ");
        SAID[section] = new boolean[SECTIONS[section].length()];
    }

    /** What follows tests this sentence, or this part of one; it stands once in its section. */
    static void says(int section, String sentence) {
        latest = section + " \"" + sentence + "\": ";
        if (SECTIONS[section] == null) {
            return;
        }
        int at = SECTIONS[section].indexOf(sentence);
        Check.due(latest + "stands in the document", at >= 0, true);
        Check.due(latest + "stands there once", SECTIONS[section].lastIndexOf(sentence), at);
        for (int i = 0; at >= 0 && i < sentence.length(); i++) {
            SAID[section][at + i] = true;
        }
    }

    /** The same sentence, with other words for what is tested of it. */
    static void due(String what, long got, long want) {
        Check.due(latest + what, got, want);
    }

    static void due(String what, boolean got, boolean want) {
        Check.due(latest + what, got, want);
    }

    /** Whatever no test has said, but marks and headings, is wrong. */
    static void allSaid() {
        for (int section = 0; section <= PROMISES && SECTIONS[section] != null; section++) {
            StringBuilder left = new StringBuilder();
            for (int i = 0; i < SAID[section].length; i++) {
                left.append(SAID[section][i] ? '|' : SECTIONS[section].charAt(i));
            }
            for (String part : left.toString().split("\\|+")) {
                boolean isMark = part.replaceAll("====? \\d\\.", "").matches("[\\W_]*");
                Check.due("section " + section + ", no test for: " + part, isMark, true);
            }
        }
    }
}
