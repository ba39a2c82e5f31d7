import java.io.IOException;
import java.nio.file.Files;
import java.nio.file.Path;
import java.util.ArrayList;
import java.util.List;
import java.util.TreeSet;

/**
 * Sentences of the document that name a boundary. Each is asked by a body of its own, named by its
 * promise (0: "The public face" and "Terms") and by its words, which must stand there in the document.
 */
final class Sentences {
    static final List<String> BROKEN = new ArrayList<>();

    private static final Path DOCUMENT = Path.of("../shared/DOC.md");
    private static final TreeSet<Integer> PROMISES = new TreeSet<>();
    private static final TreeSet<String> NAMES = new TreeSet<>();
    private static String document = null;

    private Sentences() {
    }

    static void holds(int promise, String words, Runnable body) {
        String name = "promise " + promise + ": " + words;
        PROMISES.add(promise);
        int wrong = Check.wrongAnswers();
        int asked = Check.askedAnswers();
        Check.due("told twice: " + name, NAMES.add(name) ? 0 : 1, 0);
        Check.due("stands in the document: " + name, stands(promise, words) ? 1 : 0, 1);
        try {
            body.run();
        } catch (RuntimeException | StackOverflowError e) {
            Check.due("threw " + e, 1, 0);
        }
        Check.due("asks something: " + name, Check.askedAnswers() > asked + 2 ? 1 : 0, 1);
        if (Check.wrongAnswers() == wrong) return;
        BROKEN.add(name);
        System.out.println("does not hold: " + name);
    }

    /** Each promise from first to last must have been asked. */
    static void finish(int first, int last) {
        for (int promise = first; promise <= last; promise++) {
            Check.due("promise " + promise + " is asked", PROMISES.contains(promise) ? 1 : 0, 1);
        }
        System.out.print(NAMES.size() + " sentences, ");
        Check.finish();
    }

    private static boolean stands(int promise, String words) {
        if (document == null) document = read();
        // where there is no document to look at, the words alone can not be checked
        return document.isEmpty() || section(promise).contains(words);
    }

    private static String read() {
        try {
            return Files.exists(DOCUMENT) ? Files.readString(DOCUMENT).replaceAll("\\s+", " ") : "";
        } catch (IOException e) {
            return "";
        }
    }

    private static String section(int promise) {
        String head = promise == 0 ? "## What it is" : "## Promise " + promise + ":";
        String next = promise == 38 ? "## Not promised" : "## Promise " + (promise + 1) + ":";
        int from = document.indexOf(head);
        int to = document.indexOf(next);
        return from < 0 || to < from ? "" : document.substring(from, to);
    }
}
