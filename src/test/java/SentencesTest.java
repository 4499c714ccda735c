import java.io.IOException;
import java.nio.file.DirectoryStream;
import java.nio.file.Files;
import java.nio.file.Path;
import java.util.regex.Matcher;
import java.util.regex.Pattern;

// Each sentence of the document, from its first line to its last promise, is named by a test: what no test names is told.
public final class SentencesTest {
    private static final Path DOCUMENT = Path.of("../shared/DOC.md");
    private static final Path TESTS = Path.of("src/test/java");
    private static final Pattern NAMED = Pattern.compile("sentence\\(\"([^\"]*)\"\\)");
    // Headings and what the interface says ahead of its calls promise nothing; RulesTest has the face itself.
    private static final String[] FREE = {"## What it is A house where tape is edited:", "## The public face ```java [^`]*```", "## Promise \\d+: [A-Za-z ]+ `[^`]*`:", "## Terms", "```(text)?", "======== \\d", "Ahead of the calls (`\\w+`,? )+the interface says: ---- [a-z ]+\\."};

    private static String even(String words) {
        return words.replaceAll("\\s+", " ");
    }

    private static String notNamed() throws IOException {
        String document = even(Files.readString(DOCUMENT));
        int begin = document.indexOf("## What it is"), end = document.indexOf("## Not promised");
        if (begin < 0 || end < begin) return "the document has other parts than it had";
        boolean[] isNamed = new boolean[end];
        try (DirectoryStream<Path> tests = Files.newDirectoryStream(TESTS, "*Test.java")) {
            for (Path test : tests) mark(document, Files.readString(test), isNamed);
        }
        StringBuilder left = new StringBuilder();
        for (int i = begin; i < end; i++) left.append(isNamed[i] ? '~' : document.charAt(i));
        String rest = left.toString();
        for (String free : FREE) rest = rest.replaceAll(free, "~");
        return rest.replaceAll("[^A-Za-z0-9 ]+", "\n").replaceAll("\\s*\n\\s*", "\n").strip();
    }

    private static void mark(String document, String test, boolean[] isNamed) {
        Matcher named = NAMED.matcher(test);
        while (named.find()) {
            String words = even(named.group(1));
            for (int at = document.indexOf(words); at >= 0 && !words.isEmpty(); at = document.indexOf(words, at + 1)) {
                for (int i = at; i < at + words.length() && i < isNamed.length; i++) isNamed[i] = true;
            }
        }
    }

    public static void main(String[] args) throws IOException {
        if (!Files.isReadable(DOCUMENT)) {
            System.out.println("the document is not here: nothing to look at");
            return;
        }
        String left = notNamed();
        System.out.println(left.isEmpty() ? "every sentence of the document is named by a test" : "no test names:\n" + left);
        if (!left.isEmpty()) System.exit(1);
    }
}
