import java.lang.reflect.Method;
import java.lang.reflect.Modifier;
import java.nio.file.Files;
import java.nio.file.Path;
import java.util.TreeSet;
import java.util.regex.Matcher;
import java.util.regex.Pattern;

/** The calls that README.md shows, on one object, answer what stands behind them. */
public final class ReadmeTest {
    private static final Pattern CALL = Pattern.compile("(?m)^(?:x\\.(\\w+)\\(([-\\d, ]*)\\)|told\\(x, \"([^\"]*)\"\\)); +// (-?\\d+)\\b");

    public static void main(String[] args) throws Exception {
        String page = Files.readString(Path.of("README.md"));
        SeesawPairs x = new SeesawPairs();
        int calls = 0;
        Matcher line = CALL.matcher(page);
        while (line.find()) {
            calls++;
            int got = line.group(3) != null ? told(x, line.group(3)) : call(x, line.group(1), line.group(2));
            Check.due(line.group(), got, Integer.parseInt(line.group(4)));
        }
        Check.due("calls were found", calls > 30 ? 1 : 0, 1);
        for (Method m : SeesawPairs.class.getDeclaredMethods()) {
            if (!Modifier.isPublic(m.getModifiers())) continue;
            Check.due(m.getName() + "() is shown", page.contains("x." + m.getName() + "(") ? 1 : 0, 1);
        }
        Check.due("none was overlooked", calls, page.split("(?m)^(x\\.|told\\(x)", -1).length - 1);
        names(page);
        String source = Files.readString(Path.of("src/test/java/ReadmeTest.java"));
        Check.due("told() is as on the page", plain(source).contains(plain(helper(page))) ? 1 : 0, 1);
        Check.finish();
    }

    static int told(SeesawPairs x, String text) {
        x.end(0);
        for (int i = 0; i < text.length(); i += 8) {
            long v = 0;
            for (int j = i; j < i + 8; j++) v = v << 8 | (j < text.length() ? text.charAt(j) : ' ');
            if (x.feed(v) == SeesawPairs.FULL) return SeesawPairs.FULL; // 320 bytes are the most
        }
        x.end(text.length());
        return x.text();
    }

    private static String helper(String page) {
        int from = page.indexOf("static int told(");
        int to = page.indexOf("\n}\n", from);
        return from < 0 || to < 0 ? "the page has no told()" : page.substring(from, to);
    }

    private static String plain(String code) {
        return code.replaceAll("\\s+", " ");
    }

    private static int call(SeesawPairs x, String name, String numbers) throws ReflectiveOperationException {
        String[] told = numbers.isEmpty() ? new String[0] : numbers.split(", ");
        for (Method m : SeesawPairs.class.getMethods()) {
            if (!m.getName().equals(name) || m.getParameterCount() != told.length) continue;
            Object[] values = new Object[told.length];
            for (int i = 0; i < told.length; i++) values[i] = Integer.valueOf(told[i]);
            return (Integer) m.invoke(x, values);
        }
        throw new IllegalStateException("no call " + name);
    }

    /** Each test is named on the page, and each that it names is there. */
    private static void names(String page) throws Exception {
        TreeSet<String> named = new TreeSet<>();
        Matcher name = Pattern.compile("\\b(\\w+Test)\\b").matcher(page);
        while (name.find()) named.add(name.group(1));
        for (String test : named) Check.due(test + " is there", Files.exists(Path.of("src/test/java/" + test + ".java")) ? 1 : 0, 1);
    }
}
