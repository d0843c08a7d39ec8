import java.io.IOException;
import java.io.UncheckedIOException;
import java.nio.file.Files;
import java.nio.file.Path;

/**
 * Goes through ../shared/DOC.md piece by piece: each piece must stand there next, word by word, and has runs that
 * hold it. So no sentence is left out, and a test tells it if the document becomes another one.
 */
final class Document {
    private static final Path PLACE = Path.of("..", "shared", "DOC.md");
    // What may stand between two pieces.
    private static final String BETWEEN = " .,;:()`";
    private static final int TOLD_OF_A_REST = 80;

    private final Checks c;
    private final String text;
    private int place = 0;
    // Pieces such as "NONE" are told apart by it.
    private String promise = "";

    /** The document from some words on to some others, which do not belong to it any more ("": its end). */
    Document(Checks c, String from, String until) {
        this.c = c;
        String all = plain(read());
        int start = all.indexOf(from);
        int end = until.isEmpty() ? all.length() : all.indexOf(until);
        if (start < 0 || end < start) {
            throw new IllegalStateException("the document does not have: " + from + " .. " + until);
        }
        text = all.substring(start, end);
    }

    private static String read() {
        try {
            return Files.readString(PLACE);
        } catch (IOException e) {
            throw new UncheckedIOException(e);
        }
    }

    private static String plain(String marked) {
        return marked.replaceAll("(?m)^#+ |^==== |^```\\w*$", " ").replaceAll("\\s+", " ");
    }

    /** A piece, and runs (as Script reads them) that would fail if it were broken. */
    void says(String piece, String... runs) {
        passes(piece);
        for (String run : runs) {
            Script.check(c, promise + piece, run);
        }
    }

    /** A piece that no run can hold: a heading, or one that leaves free. */
    void passes(String piece) {
        c.promise("the document");
        int at = text.indexOf(piece, place);
        boolean isNext = at >= 0 && isBetween(text.substring(place, at));
        c.dueText("what stands next", isNext ? piece : rest(), piece);
        place = at >= 0 ? at + piece.length() : place;
        promise = piece.matches("Promise \\d+: .*") ? piece.substring(0, piece.indexOf(':')) + ": " : promise;
    }

    void end() {
        c.promise("the document");
        c.dueText("what no test holds", isBetween(text.substring(place)) ? "" : rest(), "");
    }

    private String rest() {
        return text.substring(place, Math.min(text.length(), place + TOLD_OF_A_REST));
    }

    private static boolean isBetween(String signs) {
        for (int i = 0; i < signs.length(); i++) {
            if (BETWEEN.indexOf(signs.charAt(i)) < 0) {
                return false;
            }
        }
        return true;
    }
}
