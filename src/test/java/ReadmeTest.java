import java.lang.reflect.Method;
import java.lang.reflect.Modifier;
import java.nio.file.Files;
import java.nio.file.Path;
import java.util.List;
import java.util.Set;
import java.util.TreeSet;
import java.util.regex.Matcher;
import java.util.regex.Pattern;

/** README.md's example answers what it says, and README.md leaves out no call. */
public final class ReadmeTest {
    // s.name(arguments);  // answer: why
    private static final Pattern STEP = Pattern.compile("s\\.(\\w+)\\(([^)]*)\\);\\s+// ([\\w.-]+)(:.*)?");
    private static final Pattern ROW = Pattern.compile("\\| `(\\w+)\\([^)]*\\)` \\|.*");

    private static final Checks checks = new Checks("ReadmeTest");

    public static void main(String[] args) throws Exception {
        List<String> lines = Files.readAllLines(Path.of("README.md"));
        Set<String> shown = runExample(lines);
        Set<String> listed = tableRows(lines);
        for (Method method : SweepPairs.class.getDeclaredMethods()) {
            if (Modifier.isPublic(method.getModifiers())) {
                checks.due("in the example: " + method.getName(), shown.contains(method.getName()), true);
                checks.due("in the table: " + method.getName(), listed.contains(method.getName()), true);
            }
        }
        checks.end();
    }

    private static Set<String> runExample(List<String> lines) throws Exception {
        Set<String> shown = new TreeSet<>();
        SweepPairs s = new SweepPairs();
        for (String line : lines) {
            if (line.startsWith("s.")) {
                Matcher step = STEP.matcher(line);
                boolean readable = step.matches();
                checks.due("is a call with its answer: " + line, readable, true);
                if (readable) {
                    shown.add(step.group(1));
                    String got = String.valueOf(call(s, step.group(1), step.group(2)));
                    String want = step.group(3).replace("SweepPairs.BAD", "-1");
                    checks.due("answers " + got + ": " + line, got.equals(want), true);
                }
            }
        }
        return shown;
    }

    private static Object call(SweepPairs s, String name, String list) throws Exception {
        String[] words = list.isEmpty() ? new String[0] : list.split(", ");
        Class<?>[] types = new Class<?>[words.length];
        Object[] values = new Object[words.length];
        for (int i = 0; i < words.length; i++) {
            types[i] = int.class;
            values[i] = Integer.valueOf(words[i]);
        }
        return SweepPairs.class.getMethod(name, types).invoke(s, values);
    }

    private static Set<String> tableRows(List<String> lines) {
        Set<String> listed = new TreeSet<>();
        for (String line : lines) {
            Matcher row = ROW.matcher(line);
            if (row.matches()) {
                listed.add(row.group(1));
            }
        }
        return listed;
    }
}
