import java.nio.file.Files;
import java.nio.file.Path;
import java.util.LinkedHashSet;
import java.util.Set;
import java.util.function.Supplier;

// What the tests of the document's sentences share: the sentence that is looked at, and what is due there. They extend
// it for its names alone.
abstract class Checks {
    static final int NONE = -1, UNKNOWN = -2000000001, OUTSIDE = -2000000002, NOT = -2000000003, FULL = -2000000004;
    static final int NULL = -2000000011, SIZE = -2000000012, INDEX = -2000000013, STORE = -2000000014, EMPTY = -2000000015;
    static final int LEAST = Integer.MIN_VALUE, MOST = Integer.MAX_VALUE;

    private static final Path DOCUMENT = Path.of("../shared/DOC.md");
    private static final int MOST_TOLD = 20;

    private static final Set<String> sentences = new LinkedHashSet<>();
    private static String latest = "";
    private static int wrong = 0;
    private static int looks = 0;

    // The words stand in the document as they stand here; end() looks whether they do.
    static void sentence(String words) {
        sentences.add(words);
        latest = words;
    }

    private static void tell(String what) {
        wrong++;
        if (wrong > MOST_TOLD) return;
        System.out.println("\"" + latest + "\"\n" + what);
    }

    /** The answer of the latest call that was made is the one that is due. */
    static void due(long got, long want) {
        looks++;
        if (got != want) tell(House.latest.run() + "    due is " + want);
    }

    static void dueSpans(House x, int track, String want) {
        looks++;
        String got = Look.spans(x, track);
        if (!got.equals(want)) tell(House.latest.run() + "    track " + track + " has " + got + ", due is " + want);
    }

    static void alike(String what, String got, String want) {
        looks++;
        if (!got.equals(want)) tell("    " + what + ":\n" + got + "    due is\n" + want);
    }

    /** The call answers so in that state, and behind it all is as it was. */
    static void refused(Supplier<House> state, long answer, String name, int... args) {
        Call call = new Call(name, args);
        due(call.on(state.get()), answer);
        alike("behind " + call, Look.of(() -> {
            House x = state.get();
            call.on(x);
            return x;
        }), Look.of(state));
    }

    static void write(Calls x, String text) {
        for (int i = 0; i < text.length(); i++) x.write(text.charAt(i));
    }

    static int house(Calls x, String text) {
        x.erase();
        write(x, text);
        return x.house();
    }

    /** A new house, behind a text that has no fault. */
    static House told(String text) {
        House x = new House();
        write(x, text);
        if (x.house() < 0) tell("    '" + text + "' has a fault");
        return x;
    }

    /** The place of the fault of a text that a new house has. */
    static void dueFault(String text, int want) {
        dueFault(new House(), text, want);
    }

    static void dueFault(House x, String text, int want) {
        write(x, text);
        due(x.fault(), want);
        due(x.count(17), text.length());
    }

    private static String even(String words) {
        return words.replaceAll("\\s+", " ");
    }

    private static void lookAtSentences() {
        if (!Files.isReadable(DOCUMENT)) return;
        try {
            String document = even(Files.readString(DOCUMENT));
            for (String words : sentences) {
                if (!document.contains(even(words))) {
                    wrong++;
                    System.out.println("the document has no sentence \"" + words + "\"");
                }
            }
        } catch (java.io.IOException e) {
            System.out.println("the document can't be read");
        }
    }

    static void end() {
        lookAtSentences();
        System.out.println(sentences.size() + " sentences, " + looks + " looks, " + wrong + " not as due");
        if (wrong != 0) System.exit(1);
    }
}
