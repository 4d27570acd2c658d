import java.io.IOException;
import java.nio.file.Files;
import java.nio.file.Path;
import java.util.List;

/**
 * Boundary cases, each under the words of the document that name it and on an object of its own.
 * The words must stand in the document, and of a promise that is opened here no word may be left
 * that nothing is asked under.
 */
final class Edges {
    interface Deed {
        void on(PostalLines x);
    }

    interface Call {
        long on(PostalLines x);
    }

    private final Check check;
    private final List<String> document;
    private String title = "";
    private String text = "";
    private boolean[] quoted = {};
    private String words = "";
    private Deed given = x -> { };
    private boolean asked = true;

    Edges(String test) {
        check = new Check(test);
        document = read(Path.of("../shared/DOC.md"));
    }

    private static List<String> read(Path path) {
        try {
            return Files.readAllLines(path);
        } catch (IOException e) {
            throw new IllegalStateException(e);
        }
    }

    // ---- the words of the document

    /** What follows is asked of a promise, behind the colon of its call. */
    void promise(int number) {
        String head = "## Promise " + number + ": ";
        for (int i = 0; i + 2 < document.size(); i++) {
            if (!document.get(i).startsWith(head)) continue;
            String line = document.get(i + 2);
            open("Promise " + number, line.substring(line.indexOf("`: ") + 3));
            return;
        }
        check.holds("the document has promise " + number, false);
    }

    /** What follows is asked of the line of the document that begins so. */
    void terms(String start) {
        for (String line : document) {
            String plain = line.strip().replaceAll("^======== . ", "");
            if (!plain.startsWith(start)) continue;
            open("Terms", plain);
            return;
        }
        check.holds("the document has a line '" + start + " ..'", false);
    }

    private void open(String newTitle, String newText) {
        close();
        title = newTitle;
        text = newText;
        quoted = new boolean[text.length()];
    }

    private void close() {
        closeWords();
        StringBuilder left = new StringBuilder();
        for (int i = 0; i < text.length(); i++) left.append(quoted[i] ? ' ' : text.charAt(i));
        boolean all = left.chars().noneMatch(Character::isLetterOrDigit);
        check.holds(title + ": something is asked under each word, not under '" + left.toString().strip() + "'", all);
    }

    private void closeWords() {
        check.holds(title + ": something is asked under '" + words + "'", asked);
    }

    /** What follows is asked under these words. */
    void says(String newWords) {
        closeWords();
        words = newWords;
        given = x -> { };
        asked = false;
        int at = text.indexOf(words);
        check.holds(title + " says '" + words + "'", at >= 0);
        for (; at >= 0; at = text.indexOf(words, at + 1)) {
            for (int i = 0; i < words.length(); i++) quoted[at + i] = true;
        }
    }

    void end() {
        close();
        check.end();
    }

    // ---- what is asked

    /** What is done to each new object ahead of what is asked. */
    void given(Deed deed) {
        given = deed;
    }

    private PostalLines made() {
        PostalLines x = new PostalLines();
        given.on(x);
        return x;
    }

    private String label(String what) {
        asked = true;
        return title + ", '" + words + "': " + what;
    }

    void is(long want, String what, Call call) {
        check.due(label(what), call.on(made()), want);
    }

    /** A line becomes THE LINE, then this is the answer. */
    void isOf(long want, String line, Call call) {
        PostalLines x = made();
        Check.line(x, line);
        check.due(label("'" + line + "'"), call.on(x), want);
    }

    /** The call is refused, and what can be seen of the object is as if it had never been. */
    void refuses(long want, String what, Call call) {
        is(want, what, call);
        for (Looks look : Looks.values()) {
            PostalLines x = made(), twin = made();
            call.on(x);
            check.due(label(what + " changes nothing of " + look), look.at(x), look.at(twin));
        }
    }

    /** The same of a call with a line. */
    void refusesOf(long want, String line, Call call) {
        Deed before = given;
        given = x -> {
            before.on(x);
            Check.line(x, line);
        };
        refuses(want, "'" + line + "'", call);
        given = before;
    }

    /** The FOLDED WORDS of a line, as Check.wordsOf tells them. */
    void folds(String line, String want) {
        PostalLines x = made();
        Check.line(x, line);
        check.due(label("'" + line + "'"), Check.wordsOf(x), want);
    }

    /** A line READ by GRAMMAR 0. */
    void reads(String line, int cost, String marks) {
        PostalLines x = made();
        boolean there = Check.read(x, line) >= 0;
        check.holds(label("'" + line + "' is READ"), there);
        check.due(label("cost of '" + line + "'"), x.cost(), cost);
        check.due(label("marks of '" + line + "'"), Check.marksOf(x), marks);
    }

    /** THE CANONICAL line of what a line is READ as by GRAMMAR 0. */
    void writes(String line, String want) {
        PostalLines x = made();
        int delivery = Check.read(x, line);
        check.due(label("UNITS of '" + want + "'"), x.canonical(delivery), want.length());
        check.due(label("'" + line + "'"), Check.lineOf(x), want);
    }
}
