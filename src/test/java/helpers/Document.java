import java.io.IOException;
import java.nio.file.Files;
import java.nio.file.Path;

/** The document by promises, blanks and ends of lines all one blank. Run from the project's root. */
public final class Document {
    public static final int PROMISES = 43;

    private final String text;

    public Document() {
        try {
            text = Files.readString(Path.of("../shared/DOC.md")).replaceAll("\\s+", " ");
        } catch (IOException e) {
            throw new IllegalStateException("no ../shared/DOC.md", e);
        }
    }

    /** The words of a promise; 0: all that stands ahead of promise 1. */
    public String promise(int number) {
        int begin = number == 0 ? 0 : placeOf("## Promise " + number + ":");
        int end = placeOf(number == PROMISES ? "## Not promised" : "## Promise " + (number + 1) + ":");
        return text.substring(begin, end);
    }

    private int placeOf(String heading) {
        int at = text.indexOf(heading);
        if (at < 0) {
            throw new IllegalStateException("the document has no " + heading);
        }
        return at;
    }
}
