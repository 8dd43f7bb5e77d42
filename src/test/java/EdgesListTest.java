import java.io.IOException;
import java.nio.file.Files;
import java.nio.file.Path;
import java.util.List;
import java.util.regex.Matcher;
import java.util.regex.Pattern;
import java.util.stream.Collectors;
import java.util.stream.Stream;

/**
 * All words of the document that name an edge (what is refused, a range, a limit, what holds at first) are quoted by a test of an
 * edge, in the promise in which they stand. Run from the project's root.
 */
public final class EdgesListTest {
    private static final Pattern QUOTE = Pattern.compile("@Says\\(in = (\\d+), words = \"([^\"]*)\"\\)");
    private static final Pattern REFUSAL = Pattern.compile("(?:NONE|false|-2): |NONE (?:if|for) ");
    private static final Pattern EDGE = Pattern.compile("\\d+ to \\d+|\\d+ at most|(?:eight|nine) at most|at most \\d+|at first|at least|both too|not behind"
        + "|or more|not above|not below|\\(none is 60\\)|rounded down|no one twice|never back|32 bits|divided by 0|sixth|11th|seventh|one to five|the end, too"
        + "|without one|\\(empty then\\)|empty then\\)|the tape stays|\\(not 0\\)|above 0|of like ones|none: all");

    private final Document document = new Document();
    private final String sources;

    private EdgesListTest(String sources) {
        this.sources = sources;
    }

    public static void main(String[] args) throws IOException {
        EdgesListTest list = new EdgesListTest(readAll());
        for (int promise = 0; promise <= Document.PROMISES; promise++) {
            list.look(promise);
        }
        Due.end();
    }

    private static String readAll() throws IOException {
        StringBuilder all = new StringBuilder();
        try (Stream<Path> files = Files.list(Path.of("src/test/java"))) {
            List<Path> edges = files.filter(f -> f.toString().endsWith("EdgesTest.java")).sorted().collect(Collectors.toList());
            for (Path f : edges) {
                all.append(Files.readString(f));
            }
        }
        return all.toString();
    }

    private void look(int promise) {
        String text = document.promise(promise);
        boolean[] quoted = quotedIn(promise, text);
        Matcher edges = EDGE.matcher(text);
        while (edges.find()) {
            quoted(promise, text, quoted, edges.start(), edges.end());
        }
        Matcher refusals = REFUSAL.matcher(text);
        while (promise > 0 && refusals.find()) {
            quoted(promise, text, quoted, refusals.end(), endOfSentence(text, refusals.end()));
        }
        boolean some = false;
        for (boolean q : quoted) {
            some |= q;
        }
        Due.yes("promise " + promise + " has a test of an edge", some);
    }

    private boolean[] quotedIn(int promise, String text) {
        boolean[] quoted = new boolean[text.length()];
        Matcher quotes = QUOTE.matcher(sources);
        while (quotes.find()) {
            if (Integer.parseInt(quotes.group(1)) == promise) {
                String words = quotes.group(2);
                for (int at = text.indexOf(words); at >= 0; at = text.indexOf(words, at + 1)) {
                    java.util.Arrays.fill(quoted, at, at + words.length(), true);
                }
            }
        }
        return quoted;
    }

    /** Up to a ; or . or the end of the bracket around it. */
    private static int endOfSentence(String text, int begin) {
        int open = 0;
        for (int i = begin; i < text.length(); i++) {
            char sign = text.charAt(i);
            open += sign == '(' ? 1 : sign == ')' ? -1 : 0;
            if (open < 0 || open == 0 && (sign == ';' || sign == '.')) {
                return i;
            }
        }
        return text.length();
    }

    private static void quoted(int promise, String text, boolean[] quoted, int begin, int end) {
        for (int i = begin; i < end; i++) {
            if (!quoted[i] && Character.isLetterOrDigit(text.charAt(i))) {
                String around = text.substring(Math.max(0, begin - 40), Math.min(text.length(), end + 20));
                Due.yes("promise " + promise + ": '" + text.substring(begin, end) + "' is quoted (.. " + around + " ..)", false);
                return;
            }
        }
        Due.yes("quoted", true);
    }
}
