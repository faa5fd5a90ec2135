import java.lang.reflect.InvocationTargetException;
import java.lang.reflect.Method;
import java.nio.file.Files;
import java.nio.file.Path;
import java.util.ArrayList;
import java.util.Arrays;
import java.util.HashMap;
import java.util.List;
import java.util.Map;
import java.util.regex.Matcher;
import java.util.regex.Pattern;
import java.util.stream.Stream;

/**
 * For each sentence of the document that names a boundary case, a test of its own: src/test/edges has a file for each
 * promise, and README.md tells how such a file is written. Whatever a file asks for, two more things are looked at:
 * behind each call count(8) is the number of the latest FINDING, and an object that was refused something answers in
 * all as one that was never asked for it.
 */
public final class EdgeTest {
    static final int PROMISES = 37;

    private static final Path EDGES = Path.of("src/test/edges");
    private static final List<String> FINDINGS = List.of("NULL", "INDEX", "CAST", "STORE", "SIZE");
    private static final Map<String, Long> NAMES = Map.of(
        "NONE", -1L, "BAD", -2L, "NOT", -3L, "FULL", -4L, "LONGBAD", Long.MIN_VALUE + 2,
        "MIN", (long) Integer.MIN_VALUE, "LEAST", (long) Integer.MIN_VALUE, "MAX", (long) Integer.MAX_VALUE);
    private static final List<String> REFUSALS = List.of("BAD", "NOT", "FULL", "LEAST", "LONGBAD");
    private static final Pattern HEAD = Pattern.compile("== promise (\\d+): (.+)");
    private static final Pattern CALL = Pattern.compile("([a-z]+)\\(([^()]*)\\)(?: *= *([-\\w/]+))?");
    private static final Pattern BLANKS = Pattern.compile("\\s+");

    /** A sentence, and the lines that look whether it holds. */
    record Edge(int promise, String sentence, List<String> lines) {}

    private final Map<String, Method> face = new HashMap<>();
    private final List<String> wrong = new ArrayList<>();
    private Edge edge;
    private DonkeyExecutor asked, spared;
    private boolean refused;
    private int finding, dues;

    public static void main(String[] args) throws Exception {
        List<Edge> edges = edges();
        List<String> wrong = run(edges);
        wrong.addAll(missing(edges));
        wrong.forEach(System.out::println);
        System.out.println(wrong.isEmpty() ? edges.size() + " sentences hold" : wrong.size() + " answers are not as due");
        if (!wrong.isEmpty()) System.exit(1);
    }

    // ---- the files

    static List<Edge> edges() throws Exception {
        List<Edge> edges = new ArrayList<>();
        List<Path> files;
        try (Stream<Path> all = Files.list(EDGES)) {
            files = all.sorted().toList();
        }
        for (Path file : files) addEdges(file, edges);
        return edges;
    }

    private static void addEdges(Path file, List<Edge> edges) throws Exception {
        for (String line : Files.readAllLines(file)) {
            String text = line.strip();
            Matcher head = HEAD.matcher(text);
            if (text.isEmpty() || text.startsWith("#")) continue;
            if (head.matches()) edges.add(new Edge(Integer.parseInt(head.group(1)), head.group(2), new ArrayList<>()));
            else edges.get(edges.size() - 1).lines().add(text);
        }
    }

    private static List<String> missing(List<Edge> edges) {
        List<String> missing = new ArrayList<>();
        for (int p = 1; p <= PROMISES; p++) {
            int promise = p;
            if (edges.stream().noneMatch(e -> e.promise() == promise)) missing.add("promise " + p + " has no test");
        }
        return missing;
    }

    // ---- running

    private EdgeTest() {
        for (Method m : DonkeyExecutor.class.getDeclaredMethods()) face.put(m.getName(), m);
    }

    /** What was not as due in any of these. */
    static List<String> run(List<Edge> edges) {
        EdgeTest test = new EdgeTest();
        for (Edge e : edges) test.look(e);
        return test.wrong;
    }

    private void look(Edge e) {
        edge = e;
        dues = 0;
        try {
            begin();
            for (String line : e.lines()) step(line);
            end();
            if (dues == 0) tell("nothing is due");
        } catch (InvocationTargetException thrown) {
            tell("threw " + thrown.getCause());
        } catch (ReflectiveOperationException | RuntimeException broken) {
            tell("can't be run: " + broken);
        }
    }

    private void tell(String what) {
        wrong.add("promise " + edge.promise() + ", \"" + edge.sentence() + "\": " + what);
    }

    private void begin() {
        asked = new DonkeyExecutor();
        spared = new DonkeyExecutor();
        refused = false;
        finding = 0;
    }

    private void end() throws ReflectiveOperationException {
        if (!refused) return;
        String with = allOf(asked), without = allOf(spared);
        if (!with.equals(without)) tell("a refused call changed something:\n  " + with + "\n  " + without);
    }

    private void step(String line) throws ReflectiveOperationException {
        String[] words = BLANKS.split(line);
        switch (words[0]) {
            case "new" -> {
                end();
                begin();
            }
            case "heirs" -> type(0, words[1]);
            case "round" -> type(1, words[1]);
            case "row" -> row(Arrays.stream(words).skip(1).mapToInt(w -> (int) number(w)).toArray());
            case "mixed" -> digest(Arrays.stream(words).skip(1).map(EdgeTest::number).toList());
            case "parts" -> digest(partsOf(asked));
            default -> calls(line);
        }
    }

    private void type(int text, String signs) throws ReflectiveOperationException {
        for (char c : signs.toCharArray()) call("type", new int[] {text, c}, null);
    }

    /** A sheet, its form, its items. */
    private void row(int[] words) throws ReflectiveOperationException {
        call("sheet", new int[] {words[0], words[1], words.length - 2}, null);
        for (int i = 2; i < words.length; i++) call("put", new int[] {words[0], words[1], i - 2, words[i]}, null);
    }

    private void digest(List<Long> all) throws ReflectiveOperationException {
        long h = 17;
        for (long v : all) h = 31 * h + v;
        call("digest", new int[0], Long.toString(h));
    }

    private static List<Long> partsOf(DonkeyExecutor x) {
        List<Long> all = new ArrayList<>();
        int heirs = x.count(0), stops = x.count(1);
        for (int what = 0; what <= 7; what++) add(all, x.count(what));
        add(all, x.fault(0), x.fault(1));
        for (int h = 0; h < heirs; h++) {
            add(all, x.heir(h, 0), x.heir(h, 1), x.heir(h, 2));
            add(all, x.share(stops, h, 0), x.share(stops, h, 1), x.share(stops, h, 2));
            add(all, x.bait(h), x.care(h), x.skip(h, 0), x.skip(h, 1), x.was(h, 0), x.was(h, 1), x.ask(h));
            add(all, x.swarm(5, h, 0), x.swarm(5, h, 1));
        }
        for (int s = 0; s < stops; s++) {
            add(all, x.round(s), x.does(s, 0), x.does(s, 1), x.does(s, 2), x.does(s, 3));
            for (int h = 0; h < heirs; h++) add(all, x.share(s, h, 0));
        }
        add(all, x.out(), x.estate(), x.richest(), x.longest(), x.ditch());
        add(all, x.fair(0), x.fair(1), x.fair(2), x.fair(3), x.never(), x.again(7, 15, 0), x.again(7, 15, 1));
        return all;
    }

    private static void add(List<Long> all, long... values) {
        for (long v : values) all.add(v);
    }

    private void calls(String line) throws ReflectiveOperationException {
        Matcher m = CALL.matcher(line);
        int end = 0;
        while (m.find()) {
            if (!line.substring(end, m.start()).isBlank()) throw new IllegalArgumentException(line);
            end = m.end();
            for (int[] args : choices(m.group(2))) call(m.group(1), args, m.group(3));
        }
        if (end == 0 || !line.substring(end).isBlank()) throw new IllegalArgumentException(line);
    }

    /** All rows of arguments: 1|4 is either, 0..3 each of them. */
    private static List<int[]> choices(String args) {
        List<int[]> rows = new ArrayList<>(List.of(new int[0]));
        if (args.isBlank()) return rows;
        for (String arg : args.split(",")) {
            List<int[]> longer = new ArrayList<>();
            for (int[] row : rows) {
                for (int v : values(arg)) {
                    int[] more = Arrays.copyOf(row, row.length + 1);
                    more[row.length] = v;
                    longer.add(more);
                }
            }
            rows = longer;
        }
        return rows;
    }

    private static List<Integer> values(String arg) {
        List<Integer> values = new ArrayList<>();
        for (String choice : arg.strip().split("\\|")) {
            String[] ends = choice.split("\\.\\.");
            for (long v = number(ends[0]); v <= number(ends[ends.length - 1]); v++) values.add((int) v);
        }
        return values;
    }

    private static long number(String word) {
        if (word.startsWith("'")) return word.charAt(1);
        if (FINDINGS.contains(word)) return -11 - FINDINGS.indexOf(word);
        return NAMES.containsKey(word) ? NAMES.get(word) : Long.parseLong(word);
    }

    private void call(String name, int[] args, String due) throws ReflectiveOperationException {
        String[] parts = due == null ? new String[] {"0"} : due.split("/");
        String number = parts[parts.length - 1];
        boolean refusal = REFUSALS.contains(parts[0]) || FINDINGS.contains(number);
        String told = name + Arrays.toString(args).replace('[', '(').replace(']', ')');
        long got = on(asked, name, args);
        if (due != null) {
            dues++;
            if (got != number(parts[0])) tell(told + " answered " + got + ", due is " + due);
        }
        if (refusal) refused = true;
        else on(spared, name, args);
        if (FINDINGS.contains(number)) finding = FINDINGS.indexOf(number) + 1;
        long latest = on(asked, "count", 8);
        if (latest != finding) tell("count(8) behind " + told + " answered " + latest + ", due is " + finding);
    }

    private long on(DonkeyExecutor x, String name, int... args) throws ReflectiveOperationException {
        Method m = face.get(name);
        if (m == null) throw new IllegalArgumentException("no call " + name);
        return ((Number) m.invoke(x, Arrays.stream(args).boxed().toArray())).longValue();
    }

    // ---- all that an object holds; it is used up by that

    private String allOf(DonkeyExecutor x) throws ReflectiveOperationException {
        StringBuilder all = new StringBuilder();
        for (int s = 0; s <= 3; s++) all.append(rowOf(x, s)).append(' ');
        all.append("digest ").append(x.digest()).append(" temper");
        for (int what = 0; what <= 3; what++) {
            int was = x.set(what, 1);
            x.set(what, was);
            all.append(' ').append(was);
        }
        all.append(" flies");
        while (x.back() >= 0) all.append(' ').append(x.never()).append(x.swarm(5, 0, 0));
        for (int text = 0; text <= 1; text++) {
            all.append(" text");
            while (x.undo(text) >= 0) all.append(' ').append(x.fault(text)).append(' ').append(x.estate());
        }
        return all.append(" seen ").append(x.forget()).toString();
    }

    private static String rowOf(DonkeyExecutor x, int s) {
        for (int form = 0; form <= 2; form++) {
            x.get(s, form, -1);
            if (x.count(8) == 1) return "LOST";
            if (x.count(8) == 2) {
                List<Integer> items = new ArrayList<>();
                x.sheet(s, form, -1);
                for (int i = 0; i < 60 && x.count(8) == 5; i++) items.add(x.get(s, form, i));
                return form + items.toString();
            }
        }
        return "no FORM";
    }
}
