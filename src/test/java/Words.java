import java.io.IOException;
import java.nio.charset.StandardCharsets;
import java.nio.file.Files;
import java.nio.file.Path;

/**
 * The document's own words. A test says the piece that it is about to hold the class to: that piece must stand in
 * the document, an answer must be asked under it, and in the end no piece may be left unsaid.
 */
final class Words {
    private static final Path DOCUMENT = Path.of("../shared/DOC.md");
    private final Due due;
    private final String text;
    private final boolean[] said;
    private int begin;
    private int end;
    private String piece;
    private int answersBefore;

    Words(Due due) {
        this.due = due;
        String all = "";
        try {
            all = Files.readString(DOCUMENT, StandardCharsets.UTF_8).replaceAll("\\s+", " ");
        } catch (IOException e) {
            due.isText("reading " + DOCUMENT, e.toString(), "");
        }
        text = all;
        said = new boolean[text.length()];
    }

    /** What is said then stands from the one on and ahead of the other. */
    void part(String from, String to) {
        endPart();
        begin = text.indexOf(from);
        end = begin < 0 ? -1 : text.indexOf(to, begin + from.length());
        due.is("the document's part from \"" + from + "\" to \"" + to + "\" is there", begin < 0 || end < 0 ? 0 : 1, 1);
        if (begin < 0 || end < 0) {
            begin = 0;
            end = 0;
        }
        mark(begin, Math.min(begin + from.length(), end));
    }

    /** A promise: behind its heading and the signature of its method. */
    void promise(int number) {
        part("## Promise " + number + ":", number < 42 ? "## Promise " + (number + 1) + ":" : "## Not promised");
        int behind = text.indexOf("`: ", begin);
        if (behind >= 0 && behind < end) {
            mark(begin, behind + 3);
        }
    }

    void say(String words) {
        endPiece();
        piece = words;
        answersBefore = due.answers();
        due.under(words);
        int at = text.indexOf(words, begin);
        while (at >= 0 && at + words.length() <= end && isSaid(at, words.length())) {
            at = text.indexOf(words, at + 1);
        }
        boolean found = at >= 0 && at + words.length() <= end;
        due.is("the document says so, and no test has said it yet", found ? 1 : 0, 1);
        if (found) {
            mark(at, at + words.length());
        }
        answersBefore = due.answers();
    }

    private boolean isSaid(int at, int length) {
        for (int i = at; i < at + length; i++) {
            if (!said[i]) {
                return false;
            }
        }
        return true;
    }

    private void mark(int from, int to) {
        for (int i = from; i < to; i++) {
            said[i] = true;
        }
    }

    private void endPiece() {
        if (piece != null) {
            due.is("an answer was asked", due.answers() > answersBefore ? 1 : 0, 1);
        }
        piece = null;
        due.under("");
    }

    /** No word of the part is left unsaid. */
    void endPart() {
        endPiece();
        StringBuilder left = new StringBuilder();
        for (int i = begin; i < end; i++) {
            left.append(said[i] ? '|' : text.charAt(i));
        }
        for (String words : left.toString().split("\\|+")) {
            if (words.replaceAll("```text|```", "").matches(".*[A-Za-z0-9].*")) {
                due.isText("the document's words left without a test", words, "");
            }
        }
        begin = 0;
        end = 0;
    }
}
