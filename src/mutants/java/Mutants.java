import java.io.ByteArrayOutputStream;
import java.io.IOException;
import java.io.OutputStream;
import java.io.PrintStream;
import java.lang.reflect.Field;
import java.lang.reflect.Method;
import java.net.URI;
import java.nio.file.Files;
import java.nio.file.Path;
import java.util.ArrayList;
import java.util.HashMap;
import java.util.List;
import java.util.Map;
import java.util.concurrent.ExecutorService;
import java.util.concurrent.Executors;
import java.util.concurrent.Future;
import java.util.concurrent.TimeUnit;
import java.util.regex.Matcher;
import java.util.regex.Pattern;
import javax.tools.ForwardingJavaFileManager;
import javax.tools.JavaCompiler;
import javax.tools.JavaFileManager;
import javax.tools.JavaFileObject;
import javax.tools.SimpleJavaFileObject;
import javax.tools.StandardJavaFileManager;
import javax.tools.ToolProvider;

/**
 * Breaks the class in one place at a time and asks the Bounds tests of it: a break that none of them
 * finds is printed. Run by hand (README.md); .ci/run does not run it, as it takes minutes.
 */
public final class Mutants {
    private static final Path SOURCE = Path.of("src/main/java/SeesawPairs.java");
    private static final long PATIENCE_SECONDS = 20;
    private static final String[][] SWAPS = {{" <= ", " < "}, {" < ", " <= "}, {" >= ", " > "}, {" > ", " >= "}, {" == ", " != "},
        {" != ", " == "}, {" && ", " || "}, {" || ", " && "}, {" + ", " - "}, {" - ", " + "}, {"++", "--"}, {" += ", " -= "},
        {"!", ""}, {"true", "false"}, {"false", "true"}, {" >>> ", " >> "}, {"continue;", ""}, {"break;", ""}, {"Math.max", "Math.min"},
        {"Math.min", "Math.max"}, {" / ", " * "}, {" * ", " / "}, {"first", "second"}, {"second", "first"}, {"(byte) ", ""}, {"(short) ", ""}};

    private final List<String> tests;
    private final Path compiled;
    private final JavaCompiler compiler = ToolProvider.getSystemJavaCompiler();

    private Mutants(Path compiled, List<String> tests) {
        this.compiled = compiled;
        this.tests = tests;
    }

    /** Where the tests are compiled, and those of their names that are to be asked. */
    public static void main(String[] args) throws Exception {
        List<String> names = new ArrayList<>(List.of(args).subList(1, args.length));
        PrintStream out = System.out;
        System.setOut(new PrintStream(OutputStream.nullOutputStream()));
        new Mutants(Path.of(args[0]), names).run(out);
        System.exit(0);
    }

    private void run(PrintStream out) throws Exception {
        String[] lines = Files.readString(SOURCE).split("\n", -1);
        String whole = verdict(String.join("\n", lines));
        if (!whole.isEmpty()) throw new IllegalStateException("the class itself is found broken: " + whole);
        ExecutorService workers = Executors.newFixedThreadPool(Runtime.getRuntime().availableProcessors());
        List<String> labels = new ArrayList<>();
        List<Future<String>> verdicts = new ArrayList<>();
        for (int i = 0; i < lines.length; i++) {
            for (String broken : breaks(lines[i])) {
                String[] copy = lines.clone();
                copy[i] = broken;
                labels.add(i + 1 + ": " + lines[i].trim() + "   -->   " + broken.trim());
                verdicts.add(workers.submit(() -> verdict(String.join("\n", copy))));
            }
        }
        int found = 0;
        int impossible = 0;
        for (int i = 0; i < labels.size(); i++) {
            String verdict = verdicts.get(i).get();
            if (verdict.equals("does not compile")) impossible++;
            else if (verdict.isEmpty()) out.println("not found  " + labels.get(i));
            else found++;
        }
        out.println(labels.size() - impossible + " breaks, " + found + " found");
    }

    private static List<String> breaks(String line) {
        List<String> broken = new ArrayList<>();
        String trimmed = line.trim();
        if (trimmed.startsWith("//") || trimmed.startsWith("/*") || trimmed.startsWith("*") || trimmed.startsWith("public static final")) return broken;
        for (String[] swap : SWAPS) {
            for (int at = line.indexOf(swap[0]); at >= 0; at = line.indexOf(swap[0], at + 1)) {
                if (swap[0].equals("!") && line.startsWith("!=", at)) continue;
                broken.add(line.substring(0, at) + swap[1] + line.substring(at + swap[0].length()));
            }
        }
        Matcher number = Pattern.compile("\\b\\d+\\b").matcher(line);
        while (number.find()) {
            long v = Long.parseLong(number.group());
            for (long other : new long[] {v - 1, v + 1}) {
                broken.add(line.substring(0, number.start()) + "(" + other + ")" + line.substring(number.end()));
            }
        }
        if (trimmed.endsWith(";") && !trimmed.startsWith("return") && !trimmed.startsWith("private") && !trimmed.startsWith("for")) {
            broken.add("");
        }
        if (trimmed.startsWith("if (") && trimmed.contains(") return")) broken.add("");
        return broken;
    }

    /** The first sentence that is found broken; empty where all hold. */
    private String verdict(String source) throws Exception {
        Map<String, byte[]> classes = compile(source);
        if (classes == null) return "does not compile";
        String[] verdict = {"does not end"};
        Thread thread = new Thread(() -> verdict[0] = ask(classes));
        thread.setDaemon(true);
        thread.start();
        thread.join(TimeUnit.SECONDS.toMillis(PATIENCE_SECONDS));
        return verdict[0];
    }

    private String ask(Map<String, byte[]> classes) {
        try {
            Loader loader = new Loader(classes);
            for (String test : tests) {
                Method ask = loader.loadClass(test).getDeclaredMethod("ask");
                ask.setAccessible(true);
                ask.invoke(null);
                Field broken = loader.loadClass("Sentences").getDeclaredField("BROKEN");
                broken.setAccessible(true);
                List<?> names = (List<?>) broken.get(null);
                if (!names.isEmpty()) return names.get(0).toString();
            }
            return "";
        } catch (ReflectiveOperationException | RuntimeException | Error e) {
            return "threw " + e;
        }
    }

    private Map<String, byte[]> compile(String source) throws IOException {
        Map<String, byte[]> classes = new HashMap<>();
        JavaFileObject file = new SimpleJavaFileObject(URI.create("string:///SeesawPairs.java"), JavaFileObject.Kind.SOURCE) {
            @Override
            public CharSequence getCharContent(boolean ignoreEncodingErrors) {
                return source;
            }
        };
        try (StandardJavaFileManager standard = compiler.getStandardFileManager(d -> { }, null, null);
                Memory memory = new Memory(standard, classes)) {
            boolean ok = compiler.getTask(null, memory, d -> { }, List.of("--release", "17", "-proc:none"), null, List.of(file)).call();
            return ok ? classes : null;
        }
    }

    private static final class Memory extends ForwardingJavaFileManager<StandardJavaFileManager> {
        private final Map<String, byte[]> classes;

        Memory(StandardJavaFileManager standard, Map<String, byte[]> classes) {
            super(standard);
            this.classes = classes;
        }

        @Override
        public JavaFileObject getJavaFileForOutput(JavaFileManager.Location where, String name, JavaFileObject.Kind kind, javax.tools.FileObject from) {
            return new SimpleJavaFileObject(URI.create("memory:///" + name + ".class"), kind) {
                @Override
                public OutputStream openOutputStream() {
                    return new ByteArrayOutputStream() {
                        @Override
                        public void close() {
                            classes.put(name, toByteArray());
                        }
                    };
                }
            };
        }
    }

    /** The broken class from memory, the tests from where they are compiled. */
    private final class Loader extends ClassLoader {
        private final Map<String, byte[]> classes;

        Loader(Map<String, byte[]> classes) {
            super(ClassLoader.getPlatformClassLoader());
            this.classes = classes;
        }

        @Override
        protected Class<?> findClass(String name) throws ClassNotFoundException {
            byte[] bytes = classes.get(name);
            try {
                if (bytes == null) bytes = Files.readAllBytes(compiled.resolve(name + ".class"));
            } catch (IOException e) {
                throw new ClassNotFoundException(name, e);
            }
            return defineClass(name, bytes, 0, bytes.length);
        }
    }
}
