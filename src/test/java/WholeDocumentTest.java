import java.io.IOException;
import java.lang.reflect.Method;
import java.lang.reflect.Modifier;
import java.nio.file.Files;
import java.nio.file.Path;
import java.util.ArrayList;
import java.util.List;
import java.util.TreeSet;
import java.util.regex.Matcher;
import java.util.regex.Pattern;
import java.util.stream.Stream;

/** That every sentence of the document is quoted, and so asked, by a test; and that the face is the document's own. */
public final class WholeDocumentTest {
    private static final Path DOCUMENT = Path.of("../shared/DOC.md");
    private static final Pattern QUOTE = Pattern.compile("holds\\((\\d+), \"([^\"]*)\"");

    public static void main(String[] args) throws IOException {
        if (!Files.exists(DOCUMENT)) {
            System.out.println("there is no " + DOCUMENT + " to look at");
            return;
        }
        String document = Files.readString(DOCUMENT).replaceAll("\\s+", " ");
        face(document);
        quotes(document);
        Check.finish();
    }

    private static void face(String document) {
        Matcher line = Pattern.compile("public int (\\w+)\\(([^)]*)\\);").matcher(document);
        TreeSet<String> due = new TreeSet<>();
        while (line.find()) due.add(line.group(1) + "(" + line.group(2).replaceAll(" \\w+(,|$)", "$1") + ")");
        TreeSet<String> face = new TreeSet<>();
        for (Method m : SeesawPairs.class.getDeclaredMethods()) {
            if (!Modifier.isPublic(m.getModifiers()) || m.getReturnType() != int.class) continue;
            List<String> types = new ArrayList<>();
            for (Class<?> type : m.getParameterTypes()) types.add(type.getName());
            face.add(m.getName() + "(" + String.join(", ", types) + ")");
        }
        Check.due("calls of the document", due.size(), 37);
        Check.due("the face " + face + " is " + due, face.equals(due) ? 1 : 0, 1);
    }

    private static void quotes(String document) throws IOException {
        boolean[] quoted = new boolean[document.length()];
        for (int promise = 0; promise <= 38; promise++) mark(document, promise, quoted);
        int from = document.indexOf("## Terms");
        int to = document.indexOf("## Not promised");
        StringBuilder left = new StringBuilder();
        for (int i = from; i < to; i++) left.append(quoted[i] ? '\n' : document.charAt(i));
        // headings, and what tells where a part begins, promise nothing
        String[] headings = {"## Terms", "## Promise \\d+: [\\w ]+", "======== [12]", "```(text)?", "Ahead of the calls [^:]*: ---- [\\w, ]+\\.", "\\band\\b"};
        String rest = left.toString();
        for (String heading : headings) rest = rest.replaceAll(heading, "\n");
        for (String words : rest.split("\n+")) {
            Check.due("is asked by a test: " + words, words.matches(".*\\w.*") ? 0 : 1, 1);
        }
    }

    private static void mark(String document, int promise, boolean[] quoted) throws IOException {
        String head = promise == 0 ? "## Terms" : "## Promise " + promise + ":";
        int from = document.indexOf(head);
        for (String words : quotesOf(promise)) {
            int at = document.indexOf(words, from);
            for (int i = at; at >= 0 && i < at + words.length(); i++) quoted[i] = true;
        }
    }

    private static List<String> quotesOf(int promise) throws IOException {
        List<String> quotes = new ArrayList<>();
        try (Stream<Path> files = Files.list(Path.of("src/test/java"))) {
            for (Path file : files.filter(f -> f.toString().endsWith("Test.java")).toList()) {
                Matcher quote = QUOTE.matcher(Files.readString(file));
                while (quote.find()) if (Integer.parseInt(quote.group(1)) == promise) quotes.add(quote.group(2));
            }
        }
        return quotes;
    }
}
