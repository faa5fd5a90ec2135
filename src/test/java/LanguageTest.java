import java.io.PrintWriter;
import java.io.StringWriter;
import java.lang.reflect.Constructor;
import java.lang.reflect.Field;
import java.lang.reflect.Method;
import java.lang.reflect.Modifier;
import java.nio.file.Files;
import java.nio.file.Path;
import java.util.ArrayList;
import java.util.Arrays;
import java.util.List;
import java.util.Map;
import java.util.Set;
import java.util.TreeMap;
import java.util.TreeSet;
import java.util.regex.Matcher;
import java.util.regex.Pattern;
import java.util.spi.ToolProvider;

/** Looks whether the class has the document's face and keeps to those rules of LANGUAGE.md that a program can read. */
public final class LanguageTest {
    private static final Path SOURCE = Path.of("src/main/java/DonkeyExecutor.java");
    private static final String[] FACE = {
        "int type(int,int)", "int wipe(int)", "int undo(int)", "int fault(int)", "int heir(int,int)", "int round(int)",
        "int set(int,int)", "int fly(int)", "int back()", "int read(int)", "int does(int,int)", "int share(int,int,int)",
        "int out()", "int estate()", "int richest()", "int longest()", "int ditch()", "int bait(int)", "int fair(int)",
        "int care(int)", "int skip(int,int)", "int seen(int,int)", "int forget()", "int never()", "int was(int,int)",
        "int ask(int)", "long swarm(int,int,int)", "int again(int,int,int)", "int sheet(int,int,int)", "int lose(int)",
        "int put(int,int,int,int)", "int get(int,int,int)", "int copy(int,int,int,int,int)", "int write(int,int)",
        "int count(int)", "long digest()"};
    private static final String[] FORBIDDEN = {
        "\\b(throw|throws|try|catch|synchronized|assert|yield|native|volatile|transient|protected)\\b", "->", "::",
        "\\bcase [^:]*->", "@", "Exact\\b", "\\bvar\\b", "\\b(hashCode|toString|getClass|Object|Thread|Random)\\b",
        "\\bnew [A-Za-z]+\\([^)]*\\) *\\{", "\"[^\"]*\" *\\+|\\+ *\"", "\\bwhile *\\( *true *\\)", "for *\\( *;"};
    /**
     * Rule 4, as far as the class has a use for it. Integer.MIN_VALUE and its like do not stand there, so the least
     * int (promise 33) and the least long (promise 28) are constants of the class's own.
     */
    private static final Set<String> LIBRARY =
        Set.of("java.util", "util.Arrays", "Arrays.fill", "Arrays.copyOf", "Arrays.copyOfRange", "System.arraycopy",
            "Math.min", "Math.max", "Math.abs", "Math.floorDiv", "Math.floorMod", "Integer.bitCount");
    private static final Pattern OF_LIBRARY = Pattern.compile(
        "\\b(Boolean|Byte|Character|Short|Integer|Long|Float|Double|Math|String|System|Arrays|List|java|util)\\.(\\w+)");
    private static final int MOST_DEEP = 8;

    private static int wrong = 0;

    public static void main(String[] args) throws Exception {
        theFace();
        theNestedClasses();
        String code = withoutComments(Files.readString(SOURCE));
        theWords(code);
        theLibrary(code);
        theMethods(code);
        theDepth();
        theRoom();
        System.out.println(wrong == 0 ? "the rules are kept" : wrong + " rules are broken");
        if (wrong != 0) System.exit(1);
    }

    private static void rule(boolean kept, String told) {
        if (!kept) {
            wrong++;
            System.out.println(told);
        }
    }

    private static void theFace() {
        Set<String> seen = new TreeSet<>(), privates = new TreeSet<>(), publics = new TreeSet<>();
        for (Method m : DonkeyExecutor.class.getDeclaredMethods()) {
            if (m.isSynthetic()) continue;
            boolean isPublic = Modifier.isPublic(m.getModifiers());
            rule(isPublic || Modifier.isPrivate(m.getModifiers()), "neither public nor private: " + m);
            (isPublic ? publics : privates).add(m.getName());
            if (isPublic) seen.add(signature(m));
        }
        rule(seen.equals(new TreeSet<>(Arrays.asList(FACE))), "the face is " + seen);
        for (Class<?> c : DonkeyExecutor.class.getDeclaredClasses()) {
            for (Method m : c.getDeclaredMethods()) privates.add(m.getName());
        }
        privates.retainAll(publics);
        rule(privates.isEmpty(), "private methods with a public name: " + privates);
        Set<String> constants = new TreeSet<>();
        for (Field f : DonkeyExecutor.class.getDeclaredFields()) {
            if (Modifier.isPublic(f.getModifiers())) constants.add(f.getName());
            else rule(Modifier.isPrivate(f.getModifiers()), "neither public nor private: " + f);
        }
        rule(constants.equals(new TreeSet<>(List.of("NONE", "BAD", "NOT", "FULL"))), "the constants are " + constants);
        Constructor<?>[] made = DonkeyExecutor.class.getDeclaredConstructors();
        rule(made.length == 1 && Modifier.isPublic(made[0].getModifiers()), "the constructors are " + Arrays.toString(made));
        int modifiers = DonkeyExecutor.class.getModifiers();
        rule(Modifier.isPublic(modifiers) && Modifier.isFinal(modifiers), "the class is not public and final");
    }

    private static String signature(Method m) {
        List<String> types = new ArrayList<>();
        for (Class<?> t : m.getParameterTypes()) types.add(t.getName());
        return m.getReturnType().getName() + " " + m.getName() + "(" + String.join(",", types) + ")";
    }

    private static void theNestedClasses() {
        List<Class<?>> all = new ArrayList<>(Arrays.asList(DonkeyExecutor.class.getDeclaredClasses()));
        all.add(DonkeyExecutor.class);
        rule(all.size() <= 12, "there are " + all.size() + " classes");
        for (Class<?> c : all) {
            rule(c == DonkeyExecutor.class || Modifier.isStatic(c.getModifiers()), "not static: " + c);
            int fields = 0;
            for (Field f : c.getDeclaredFields()) {
                boolean isStatic = Modifier.isStatic(f.getModifiers());
                rule(!isStatic || Modifier.isFinal(f.getModifiers()), "static and not final: " + f);
                if (!isStatic) fields++;
            }
            rule(fields <= 20, c + " has " + fields + " fields");
            for (Method m : c.getDeclaredMethods()) rule(m.getParameterCount() <= 7, "too many parameters: " + m);
        }
    }

    private static String withoutComments(String source) {
        return Pattern.compile("/\\*.*?\\*/|//[^\n]*", Pattern.DOTALL).matcher(source).replaceAll("");
    }

    private static void theWords(String code) {
        for (String word : FORBIDDEN) {
            Matcher m = Pattern.compile(word).matcher(code);
            rule(!m.find(), "the source has " + word);
        }
        for (String line : code.split("\n")) {
            rule(!line.startsWith("package"), "a package line");
            if (line.startsWith("import")) rule(line.matches("import java\\.util\\.(Arrays|ArrayList|List|Iterator);"), line);
        }
        rule(code.chars().allMatch(c -> c > 0 && c < 128), "the source has signs above 127");
    }

    private static void theLibrary(String code) {
        Matcher m = OF_LIBRARY.matcher(code);
        while (m.find()) rule(LIBRARY.contains(m.group(1) + "." + m.group(2)), "rule 4: not in the library: " + m.group());
    }

    private static void theMethods(String code) {
        String[] lines = code.split("\n");
        int begun = -1;
        for (int i = 0; i < lines.length; i++) {
            if (lines[i].matches(" {4}(?: {4})?[a-zA-Z].*\\) \\{")) begun = i;
            if (lines[i].matches(" {4}(?: {4})?\\}") && begun >= 0) {
                rule(i - begun < 60, "long method: " + lines[begun].trim());
                begun = -1;
            }
        }
    }

    /** Rule 11: calls that are no recursion go at most eight deep; a call of the library is a level too. */
    private static void theDepth() throws Exception {
        Map<String, Set<String>> graph = callGraph();
        rule(graph.getOrDefault("DonkeyExecutor.digest", Set.of()).size() > 10, "the calls can't be read");
        for (String method : graph.keySet()) {
            List<String> way = deepest(method, graph, new ArrayList<>());
            rule(way.size() <= MOST_DEEP, "rule 11: calls go " + way.size() + " deep: " + way);
        }
    }

    private static List<String> deepest(String method, Map<String, Set<String>> graph, List<String> open) {
        List<String> best = List.of();
        open.add(method);
        for (String next : graph.getOrDefault(method, Set.of())) {
            if (open.contains(next)) {
                rule(next.equals(method), "a recursion through several methods: " + open + " " + next);
                continue;
            }
            List<String> way = deepest(next, graph, open);
            if (way.size() > best.size()) best = way;
        }
        open.remove(open.size() - 1);
        List<String> whole = new ArrayList<>(List.of(method));
        whole.addAll(best);
        return whole;
    }

    /** Which methods each method calls, as its bytecode tells. No two methods of a class have one name. */
    private static Map<String, Set<String>> callGraph() throws Exception {
        Path built = Path.of(DonkeyExecutor.class.getProtectionDomain().getCodeSource().getLocation().toURI());
        List<String> args = new ArrayList<>(List.of("-c", "-p", "-cp", built.toString(), "DonkeyExecutor"));
        for (Class<?> c : DonkeyExecutor.class.getDeclaredClasses()) args.add(c.getName());
        StringWriter told = new StringWriter();
        PrintWriter out = new PrintWriter(told);
        ToolProvider.findFirst("javap").orElseThrow().run(out, out, args.toArray(new String[0]));
        Pattern classHead = Pattern.compile("\\bclass (\\S+) \\{");
        Pattern methodHead = Pattern.compile("^  (?=\\S)(?:.* )?([\\w$]+)\\(.*\\);");
        Pattern call = Pattern.compile("// (?:Interface)?Method ([^:]+):");
        Map<String, Set<String>> graph = new TreeMap<>();
        String in = "", method = "";
        for (String line : told.toString().split("\n")) {
            Matcher c = classHead.matcher(line), m = methodHead.matcher(line), k = call.matcher(line);
            if (c.find()) {
                in = c.group(1);
            } else if (m.find()) {
                method = in + "." + (m.group(1).equals(in) ? "<init>" : m.group(1));
                graph.put(method, new TreeSet<>());
            } else if (k.find()) {
                String called = k.group(1).replace("\"", "");
                graph.get(method).add(called.contains(".") ? called : in + "." + called);
            }
        }
        return graph;
    }

    /** One object may be asked 512 times in a room that is never swept, so calls make nothing. */
    private static void theRoom() {
        com.sun.management.ThreadMXBean bean =
            (com.sun.management.ThreadMXBean) java.lang.management.ManagementFactory.getThreadMXBean();
        long thread = Thread.currentThread().getId();
        allCalls(new DonkeyExecutor());
        long before = bean.getThreadAllocatedBytes(thread);
        DonkeyExecutor x = new DonkeyExecutor();
        long made = bean.getThreadAllocatedBytes(thread) - before;
        rule(made < 20_000, "a new object takes " + made + " bytes");
        before = bean.getThreadAllocatedBytes(thread);
        allCalls(x);
        long taken = bean.getThreadAllocatedBytes(thread) - before;
        rule(taken < 2_000, "some calls take " + taken + " bytes");
    }

    private static void allCalls(DonkeyExecutor x) {
        for (int i = 0; i < 31; i++) x.type(0, i % 4 == 3 ? ';' : i % 4 == 0 ? 'k' : '1' + i % 8);
        for (int i = 0; i < 20; i++) x.type(1, 'a' + i % 8);
        for (int i = 0; i < 5; i++) x.fly(3 * i);
        for (int i = 0; i < 4; i++) x.sheet(i, 2, 60);
        for (int i = 0; i < 20; i++) {
            x.set(0, i % 10);
            x.seen(i, 3);
            x.digest();
            x.write(i, 0);
            x.copy(0, 0, 1, 0, 60);
            x.put(1, 2, 0, i);
            x.get(1, 2, 0);
            x.read(1);
            x.sheet(2, i % 3, i);
            x.lose(2);
            x.forget();
            x.back();
            x.undo(1);
        }
        x.wipe(0);
    }
}
