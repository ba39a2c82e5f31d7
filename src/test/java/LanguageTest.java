import java.lang.reflect.Field;
import java.lang.reflect.Method;
import java.lang.reflect.Modifier;
import java.nio.file.Files;
import java.nio.file.Path;
import java.util.ArrayList;
import java.util.Arrays;
import java.util.List;
import java.util.Map;
import java.util.TreeMap;
import java.util.TreeSet;
import java.util.regex.Matcher;
import java.util.regex.Pattern;

/** The face of the document, and what of LANGUAGE.md can be seen by a look at the file. */
public final class LanguageTest {
    private static final String FACE = "feed(long) end(int) text() fault() rule(int) bridge(int,int) one(int,int) stones(int) "
        + "heap(int,int) play(int,int) weigh(int,int) send(int,int,int) feast(int,int) can(int,int,int,int,int) "
        + "cross(int,int,int,int,int) balance(int,int,int,int) fellows(int,int) errands(int,int) heaved(int,int) worth(int,int) "
        + "hire(int,int,int) plan(int) reach(int) ways() tell(int,int,int) forget(int) judge() late(int) fits(int,int,int) "
        + "season(int,int,int) keep(int) back(int) sheet(int,int,int) lay(int,int,int) read(int,int,int,int) torn() count(int)";

    public static void main(String[] args) throws Exception {
        face();
        String source = Files.readString(Path.of("src/main/java/SeesawPairs.java"));
        words(withoutComments(source));
        sizes(withoutComments(source));
        depths(withoutComments(source));
        Check.finish();
    }

    private static void face() {
        Class<SeesawPairs> c = SeesawPairs.class;
        Check.due("public and final", c.getModifiers() & (Modifier.PUBLIC | Modifier.FINAL), Modifier.PUBLIC | Modifier.FINAL);
        TreeSet<String> open = new TreeSet<>();
        TreeSet<String> names = new TreeSet<>();
        List<Method> hidden = new ArrayList<>();
        for (Method m : c.getDeclaredMethods()) {
            if (Modifier.isPrivate(m.getModifiers())) {
                hidden.add(m);
                continue;
            }
            List<String> types = new ArrayList<>();
            for (Class<?> t : m.getParameterTypes()) types.add(t.getName());
            open.add(m.getName() + "(" + String.join(",", types) + ")");
            names.add(m.getName());
            Check.due("answers an int: " + m, m.getReturnType() == int.class ? 1 : 0, 1);
        }
        TreeSet<String> due = new TreeSet<>(Arrays.asList(FACE.split(" ")));
        Check.due("the face " + open, open.equals(due) ? 1 : 0, 1);
        for (Class<?> inner : c.getDeclaredClasses()) {
            Check.due("static: " + inner, Modifier.isStatic(inner.getModifiers()) ? 1 : 0, 1);
            hidden.addAll(Arrays.asList(inner.getDeclaredMethods()));
        }
        for (Method m : hidden) Check.due("a name of its own: " + m, names.contains(m.getName()) ? 1 : 0, 0);
        Check.due("classes", c.getDeclaredClasses().length <= 12 ? 1 : 0, 1);
        for (Field f : c.getDeclaredFields()) {
            boolean constant = List.of("BAD", "STATE", "FULL", "NONE").contains(f.getName());
            Check.due("open: " + f, Modifier.isPublic(f.getModifiers()) ? 1 : 0, constant ? 1 : 0);
            Check.due("private or a constant: " + f, constant || Modifier.isPrivate(f.getModifiers()) ? 1 : 0, 1);
        }
        Check.due("constructors", c.getDeclaredConstructors().length, 1);
    }

    private static String withoutComments(String source) {
        return source.replaceAll("(?s)/\\*.*?\\*/", "").replaceAll("//[^\n]*", "");
    }

    private static void words(String code) {
        String[] never = {"throw", "throws", "try", "catch", "synchronized", "assert", "import", "package", "lambda", "protected",
            "hashCode", "toString", "Thread", "Random", "Exact", "var", "->", "::"};
        for (String word : never) {
            boolean isWord = Character.isLetter(word.charAt(0));
            Matcher m = Pattern.compile(isWord ? "\\b" + word + "\\b" : Pattern.quote(word)).matcher(code);
            Check.due("the word " + word, m.find() ? 1 : 0, 0);
        }
        Matcher library = Pattern.compile("\\b(Math|System|Integer|Long|Arrays)\\.(\\w+)").matcher(code);
        List<String> allowed = List.of("abs", "min", "max", "arraycopy", "fill", "copyOf");
        while (library.find()) Check.due("library " + library.group(), allowed.contains(library.group(2)) ? 1 : 0, 1);
        for (int i = 0; i < code.length(); i++) {
            if (code.charAt(i) > 126) Check.due("a sign above 126 at " + i, code.charAt(i), 0);
        }
    }

    private static final Pattern HEAD = Pattern.compile("^( {4}| {8})(?:[\\w\\[\\]]+ )+(\\w+)\\(([^)]*)\\) \\{$");

    /** Calls that are no recursion go eight deep at most, the public one among them; methods of one name are taken as one. */
    private static void depths(String code) {
        Map<String, String> bodies = new TreeMap<>();
        String[] lines = code.split("\n");
        for (int i = 0; i < lines.length; i++) {
            Matcher m = HEAD.matcher(lines[i]);
            if (!m.find()) continue;
            StringBuilder body = new StringBuilder();
            for (int at = i + 1; at < lines.length && !lines[at].equals(m.group(1) + "}"); at++) body.append(lines[at]).append('\n');
            bodies.merge(m.group(2), body.toString(), String::concat);
        }
        for (String name : bodies.keySet()) {
            makesNothing(name, bodies.get(name));
            int depth = depth(name, bodies, 0);
            Check.due("calls below " + name + " are " + depth + " deep", depth <= 8 ? 1 : 0, 1);
        }
    }

    private static int depth(String name, Map<String, String> bodies, int above) {
        int below = 0;
        Matcher call = Pattern.compile("\\b(\\w+)\\(").matcher(bodies.get(name));
        while (call.find() && above < 20) {
            String other = call.group(1);
            if (bodies.containsKey(other) && !other.equals(name)) below = Math.max(below, depth(other, bodies, above + 1));
        }
        return below + 1;
    }

    /** Objects and rows are made with the object alone: no call makes one, so that all calls of a run find room. */
    private static void makesNothing(String name, String body) {
        Check.due(name + " makes an object", Pattern.compile("\\bnew\\b|\\bclone\\(|copyOf").matcher(body).find() ? 1 : 0, 0);
    }

    /** Methods of some sixty lines, with seven parameters at most. */
    private static void sizes(String code) {
        String[] lines = code.split("\n");
        int methods = 0;
        for (int i = 0; i < lines.length; i++) {
            Matcher m = HEAD.matcher(lines[i]);
            if (!m.find()) continue;
            methods++;
            int end = i;
            while (end < lines.length && !lines[end].equals(m.group(1) + "}")) end++;
            Check.due("lines of " + m.group(2), end - i <= 60 ? 1 : 0, 1);
            Check.due("parameters of " + m.group(2), m.group(3).split(",").length <= 7 ? 1 : 0, 1);
        }
        Check.due("methods were found", methods > 60 ? 1 : 0, 1);
    }
}
