import java.io.IOException;
import java.nio.file.Files;
import java.nio.file.Path;
import java.util.ArrayList;
import java.util.List;
import java.util.TreeMap;
import java.util.regex.Matcher;
import java.util.regex.Pattern;
import java.util.stream.Stream;

/**
 * Each sentence that a test names stands in the document, and each word of the document that names an edge
 * stands in a sentence that a test names.
 */
public final class SentencesTest {
    private static final Path DOCUMENT = Path.of("../shared/DOC.md");
    private static final Pattern EDGE = Pattern.compile("\\b(?:BAD|FULL|STATE|SPENT|FINDING|NOTHING|BEYOND|UNLIKE|NOUGHT"
            + "|SIZE|NONE|at most|at least|above|below|more than|fewer|fewest|longest|none|cut|rounded up|[Tt]he first"
            + "|last|latest|before|anew|missing|order|only|alone|itself|the same|aside|again|early|also|either side"
            + "|nothing|nobody|nowhere|whether)\\b|\\d+ \\.\\.|\\b\\d+ to \\d+");
    private static final Pattern NAMED = Pattern.compile(
            "Due\\.sentence\\(\\s*\"([^\"]*)\",\\s*((?:\"(?:[^\"\\\\]|\\\\.)*\"[\\s+]*)+)\\)");

    /** The text under each heading, and which of its letters stand in a sentence that a test names. */
    private static final TreeMap<String, String> BODIES = new TreeMap<>();
    private static final TreeMap<String, boolean[]> NAMED_LETTERS = new TreeMap<>();

    public static void main(String[] args) throws IOException {
        readDocument();
        int named = 0;
        for (Path test : tests()) {
            Matcher matcher = NAMED.matcher(Files.readString(test));
            while (matcher.find()) {
                String words = matcher.group(2).strip().replaceAll("\"[\\s+]+\"", "");
                name(matcher.group(1), words.substring(1, words.length() - 1));
                named++;
            }
        }
        System.out.println("SentencesTest: " + named + " sentences are named");
        for (int promise = 1; promise <= 45; promise++) {
            edgesNamed("Promise " + promise);
        }
        edgesNamed("Terms");
        Due.finish("SentencesTest");
    }

    private static void readDocument() throws IOException {
        for (String part : Files.readString(DOCUMENT).split("(?m)^## ")) {
            String heading = part.lines().findFirst().orElse("").replaceAll(":.*", "");
            String body = part.replaceAll("\\s+", " ");
            BODIES.put(heading, body);
            NAMED_LETTERS.put(heading, new boolean[body.length()]);
        }
    }

    private static List<Path> tests() throws IOException {
        List<Path> tests = new ArrayList<>();
        try (Stream<Path> all = Files.list(Path.of("src/test/java"))) {
            all.filter(path -> path.toString().endsWith("Test.java")).sorted().forEach(tests::add);
        }
        return tests;
    }

    private static void name(String heading, String words) {
        String body = BODIES.getOrDefault(heading, "");
        int start = body.indexOf(words);
        Due.holds("under " + heading + ": \"" + words + "\"", start >= 0);
        while (start >= 0) {
            for (int i = start; i < start + words.length(); i++) {
                NAMED_LETTERS.get(heading)[i] = true;
            }
            start = body.indexOf(words, start + 1);
        }
    }

    private static void edgesNamed(String heading) {
        Due.holds("there is " + heading, BODIES.containsKey(heading));
        String body = BODIES.getOrDefault(heading, "");
        boolean[] letters = NAMED_LETTERS.getOrDefault(heading, new boolean[0]);
        boolean any = false;
        for (boolean letter : letters) {
            any |= letter;
        }
        Due.holds("a sentence of " + heading, any);
        Matcher edge = EDGE.matcher(body);
        while (edge.find()) {
            String around = body.substring(Math.max(0, edge.start() - 30), Math.min(body.length(), edge.end() + 30));
            Due.holds("a test of '" + edge.group() + "' under " + heading + ": .. " + around + " ..",
                    letters[edge.start()] && letters[edge.end() - 1]);
        }
    }
}
