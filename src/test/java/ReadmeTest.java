import java.lang.reflect.Method;
import java.lang.reflect.Modifier;
import java.nio.file.Files;
import java.nio.file.Path;
import java.util.Arrays;
import java.util.Set;
import java.util.TreeSet;
import java.util.regex.Matcher;
import java.util.regex.Pattern;

/** Runs the example of README.md: each call there answers the number behind it, and no call of the face is left out. */
public final class ReadmeTest {
    private static final Path README = Path.of("README.md");
    private static final Pattern EXAMPLE = Pattern.compile("```java\n(.*?)```", Pattern.DOTALL);
    private static final Pattern CALL = Pattern.compile("x\\.(\\w+)\\(([-\\d, ]*)\\); +// (-?\\d+): .+");
    private static final Pattern TYPING =
        Pattern.compile("for \\(char c : \"(.*)\"\\.toCharArray\\(\\)\\) x\\.type\\(([01]), c\\); +// .+");
    private static final Pattern TABLE_ROW = Pattern.compile("(?m)^\\| [a-z].* \\| (`.*`) \\|$");

    private static int wrong = 0;

    public static void main(String[] args) throws Exception {
        String readme = Files.readString(README);
        Matcher example = EXAMPLE.matcher(readme);
        int ran = example.find() ? run(example.group(1).split("\n")) : 0;
        if (ran < 20) tell("README.md has an example of " + ran + " calls");
        theTable(readme);
        System.out.println(wrong == 0 ? "README.md tells the truth" : wrong + " things in README.md are wrong");
        if (wrong != 0) System.exit(1);
    }

    private static void tell(String what) {
        wrong++;
        System.out.println(what);
    }

    private static int run(String[] lines) throws ReflectiveOperationException {
        DonkeyExecutor x = new DonkeyExecutor();
        int ran = 0;
        for (String line : lines) {
            Matcher call = CALL.matcher(line), typing = TYPING.matcher(line);
            if (call.matches()) {
                ran++;
                long got = answer(x, call.group(1), call.group(2));
                if (got != Long.parseLong(call.group(3))) tell(line + " answered " + got);
            } else if (typing.matches()) {
                for (char c : typing.group(1).toCharArray()) x.type(Integer.parseInt(typing.group(2)), c);
            } else if (!line.isBlank() && !line.equals("DonkeyExecutor x = new DonkeyExecutor();")) {
                tell("can't be run: " + line);
            }
        }
        return ran;
    }

    private static long answer(DonkeyExecutor x, String name, String args) throws ReflectiveOperationException {
        Integer[] values = args.isBlank() ? new Integer[0]
            : Arrays.stream(args.split(", *")).map(Integer::valueOf).toArray(Integer[]::new);
        Class<?>[] types = new Class<?>[values.length];
        Arrays.fill(types, int.class);
        return ((Number) DonkeyExecutor.class.getMethod(name, types).invoke(x, (Object[]) values)).longValue();
    }

    private static void theTable(String readme) {
        Set<String> named = new TreeSet<>(), face = new TreeSet<>();
        Matcher row = TABLE_ROW.matcher(readme);
        while (row.find()) named.addAll(Arrays.asList(row.group(1).replace("`", "").split(" ")));
        for (Method m : DonkeyExecutor.class.getDeclaredMethods()) {
            if (Modifier.isPublic(m.getModifiers())) face.add(m.getName());
        }
        if (!named.equals(face)) tell("the table names " + named + ", the face has " + face);
    }
}
