import java.io.ByteArrayOutputStream;
import java.io.OutputStream;
import java.net.URI;
import java.nio.file.Files;
import java.nio.file.Path;
import java.util.ArrayList;
import java.util.HashMap;
import java.util.List;
import java.util.Map;
import java.util.concurrent.ExecutorService;
import java.util.concurrent.Executors;
import java.util.concurrent.Future;
import java.util.regex.Matcher;
import java.util.regex.Pattern;
import javax.tools.FileObject;
import javax.tools.ForwardingJavaFileManager;
import javax.tools.JavaCompiler;
import javax.tools.JavaFileManager;
import javax.tools.JavaFileObject;
import javax.tools.SimpleJavaFileObject;
import javax.tools.ToolProvider;

/**
 * Looks whether EdgeTest would fail if the class were wrong: breaks one sign of the class at a time (a comparison, a
 * number, a statement left out) and tells the breaks that no sentence notices. Each of those is one that no answer can
 * show, or a sentence that wants a test. It is run by hand, as README.md tells, not by .ci/run.
 */
public final class Mutants {
    private static final Path SOURCE = Path.of("src/main/java/DonkeyExecutor.java");
    private static final String[][] SWAPS = {
        {" < ", " <= "}, {" <= ", " < "}, {" > ", " >= "}, {" >= ", " > "}, {" == ", " != "}, {" != ", " == "},
        {" && ", " || "}, {" || ", " && "}, {" + ", " - "}, {" - ", " + "}, {" * ", " + "}, {" += ", " -= "},
        {" -= ", " += "}, {"++", "--"}, {"--", "++"}, {" % ", " / "}, {">>> ", ">> "}, {" | ", " & "}, {" |= ", " = "},
        {"Math.min(", "Math.max("}, {"Math.max(", "Math.min("}, {"true", "false"}, {"false", "true"}, {"!", ""},
        {"(byte) ", ""}, {"(short) ", ""}, {" = sheets[s];", " = sheets[0];"}};
    private static final Pattern NUMBER = Pattern.compile("(?<![\\w.'])\\d+(?![\\w.'])");
    private static final Pattern STATEMENT = Pattern.compile("\\s*[\\w.\\[\\]]+( = | \\+= | -= | \\|= |\\(|\\+\\+|--).*;|\\s*break;");

    private record Mutant(int line, String from, String to, String source) {}

    public static void main(String[] args) throws Exception {
        Path build = Path.of(args[0]);
        List<Mutant> mutants = mutants(Files.readAllLines(SOURCE));
        ExecutorService pool = Executors.newFixedThreadPool(8, Mutants::daemon);
        List<Future<String>> verdicts = new ArrayList<>();
        for (Mutant m : mutants) verdicts.add(pool.submit(() -> verdict(m, build)));
        Map<String, Integer> tally = new HashMap<>();
        for (int i = 0; i < mutants.size(); i++) {
            String verdict = verdicts.get(i).get();
            tally.merge(verdict, 1, Integer::sum);
            Mutant m = mutants.get(i);
            if (verdict.equals("lives")) System.out.println(m.line() + ": " + m.from().strip() + "\n    -> " + m.to().strip());
        }
        System.out.println(tally);
        System.exit(0);
    }

    private static Thread daemon(Runnable work) {
        Thread t = new Thread(work);
        t.setDaemon(true);
        return t;
    }

    // ---- breaking

    private static List<Mutant> mutants(List<String> lines) {
        List<Mutant> all = new ArrayList<>();
        for (int i = 0; i < lines.size(); i++) {
            String line = lines.get(i), bare = line.strip();
            if (bare.startsWith("/") || bare.startsWith("*") || bare.startsWith("import")) continue;
            for (String to : broken(line)) {
                List<String> changed = new ArrayList<>(lines);
                changed.set(i, to);
                all.add(new Mutant(i + 1, line, to, String.join("\n", changed)));
            }
        }
        return all;
    }

    private static List<String> broken(String line) {
        List<String> all = new ArrayList<>();
        for (String[] swap : SWAPS) {
            for (int at = line.indexOf(swap[0]); at >= 0; at = line.indexOf(swap[0], at + 1)) {
                all.add(line.substring(0, at) + swap[1] + line.substring(at + swap[0].length()));
            }
        }
        Matcher m = NUMBER.matcher(line);
        while (m.find()) {
            long v = Long.parseLong(m.group());
            for (long w : new long[] {v + 1, v - 1}) all.add(line.substring(0, m.start()) + w + line.substring(m.end()));
        }
        if (STATEMENT.matcher(line).matches()) all.add("");
        return all;
    }

    // ---- running

    private static String verdict(Mutant m, Path build) throws Exception {
        Map<String, byte[]> classes = compiled(m.source());
        if (classes == null) return "does not compile";
        Loader loader = new Loader(classes, build);
        List<String> told = new ArrayList<>();
        Thread run = daemon(() -> told.add(noticed(loader)));
        run.start();
        run.join(20_000);
        return told.isEmpty() ? "does not end" : told.get(0);
    }

    private static String noticed(Loader loader) {
        try {
            Class<?> test = loader.loadClass("EdgeTest");
            Object edges = call(test, "edges");
            return ((List<?>) call(test, "run", edges)).isEmpty() ? "lives" : "is noticed";
        } catch (ReflectiveOperationException | LinkageError e) {
            return "is noticed";
        }
    }

    private static Object call(Class<?> c, String name, Object... args) throws ReflectiveOperationException {
        for (var m : c.getDeclaredMethods()) {
            if (m.getName().equals(name) && m.getParameterCount() == args.length) {
                m.setAccessible(true);
                return m.invoke(null, args);
            }
        }
        throw new NoSuchMethodException(name);
    }

    /** The broken class, with the tests as they were built. */
    private static final class Loader extends ClassLoader {
        private final Map<String, byte[]> classes;
        private final Path build;

        Loader(Map<String, byte[]> classes, Path build) {
            super(ClassLoader.getPlatformClassLoader());
            this.classes = classes;
            this.build = build;
        }

        @Override
        protected Class<?> findClass(String name) throws ClassNotFoundException {
            try {
                byte[] code = classes.containsKey(name) ? classes.get(name) : Files.readAllBytes(build.resolve(name + ".class"));
                return defineClass(name, code, 0, code.length);
            } catch (java.io.IOException e) {
                throw new ClassNotFoundException(name);
            }
        }
    }

    private static Map<String, byte[]> compiled(String source) {
        JavaCompiler javac = ToolProvider.getSystemJavaCompiler();
        Map<String, ByteArrayOutputStream> out = new HashMap<>();
        JavaFileObject file = new SimpleJavaFileObject(URI.create("mem:///DonkeyExecutor.java"), JavaFileObject.Kind.SOURCE) {
            @Override
            public CharSequence getCharContent(boolean ignore) {
                return source;
            }
        };
        JavaFileManager files = new ForwardingJavaFileManager<>(javac.getStandardFileManager(d -> { }, null, null)) {
            @Override
            public JavaFileObject getJavaFileForOutput(Location l, String name, JavaFileObject.Kind kind, FileObject sibling) {
                return new SimpleJavaFileObject(URI.create("mem:///" + name + ".class"), kind) {
                    @Override
                    public OutputStream openOutputStream() {
                        ByteArrayOutputStream bytes = new ByteArrayOutputStream();
                        out.put(name, bytes);
                        return bytes;
                    }
                };
            }
        };
        if (!javac.getTask(null, files, d -> { }, null, null, List.of(file)).call()) return null;
        Map<String, byte[]> classes = new HashMap<>();
        out.forEach((name, bytes) -> classes.put(name, bytes.toByteArray()));
        return classes;
    }
}
