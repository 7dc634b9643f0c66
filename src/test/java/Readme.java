import java.lang.reflect.InvocationTargetException;
import java.lang.reflect.Method;
import java.lang.reflect.Modifier;
import java.nio.file.Files;
import java.nio.file.Path;
import java.util.List;
import java.util.Set;
import java.util.TreeSet;
import java.util.regex.Matcher;
import java.util.regex.Pattern;

/**
 * What README.md tells is so: each line of its example is called, and answers what stands behind it; each call of the
 * class is in the example; each test is in the table of tests.
 */
public final class Readme {
    private static final String MAKES = "BoltRow x = new BoltRow();";
    // A call; its answer, or what it throws; the whole row, if it is told; words.
    private static final Pattern CALLS = Pattern.compile(
        "(?:long \\w+ = )?x\\.(\\w+)\\((.*)\\); +// (-?\\d+|true|false|throws \\w+)(?:, row((?: -?\\d+)+))?(?:: .+)?");

    private static final Set<String> called = new TreeSet<>();
    private static BoltRow x = null;
    private static int lines = 0;
    private static int wrong = 0;

    public static void main(String[] args) throws Exception {
        List<String> readme = Files.readAllLines(Path.of("README.md"));
        example(readme);
        for (Method m : BoltRow.class.getDeclaredMethods()) {
            due(m.getName() + " is not in the example", called.contains(m.getName()) || !Modifier.isPublic(m.getModifiers()));
        }
        table(readme);
        System.out.println("Readme: " + lines + " lines, " + wrong + " wrong");
        if (wrong != 0) {
            System.exit(1);
        }
    }

    private static void due(String otherwise, boolean so) {
        if (!so) {
            wrong++;
            System.out.println("Readme: " + otherwise);
        }
    }

    private static void example(List<String> readme) throws Exception {
        boolean within = false;
        for (String line : readme) {
            if (line.startsWith("```")) {
                within = line.equals("```java");
            } else if (within) {
                lines++;
                line(line);
            }
        }
        due("there is no example", lines > 0);
    }

    private static void line(String line) throws Exception {
        if (line.equals(MAKES)) {
            x = new BoltRow();
            return;
        }
        Matcher m = CALLS.matcher(line);
        if (!m.matches() || x == null) {
            due("it is not told what this answers: " + line, false);
            return;
        }
        called.add(m.group(1));
        String got = answer(m.group(1), m.group(2).isEmpty() ? new String[0] : m.group(2).split(", "));
        due(line + " answered " + got, got.equals(m.group(3)));
        if (m.group(4) != null) {
            due(line + " left row" + row(), row().equals(m.group(4)));
        }
    }

    private static String answer(String name, String[] told) throws Exception {
        Class<?>[] types = new Class<?>[told.length];
        Object[] values = new Object[told.length];
        for (int i = 0; i < told.length; i++) {
            boolean truth = told[i].equals("true") || told[i].equals("false");
            types[i] = truth ? boolean.class : int.class;
            if (truth) {
                values[i] = told[i].equals("true");
            } else {
                values[i] = Integer.decode(told[i]);
            }
        }
        try {
            return String.valueOf(BoltRow.class.getMethod(name, types).invoke(x, values));
        } catch (InvocationTargetException e) {
            return "throws " + e.getCause().getClass().getSimpleName();
        }
    }

    private static String row() {
        StringBuilder all = new StringBuilder();
        for (int i = 0; i < x.count(5); i++) {
            all.append(' ').append(x.row(i));
        }
        return all.toString();
    }

    private static void table(List<String> readme) throws Exception {
        try (var tests = Files.list(Path.of("src/test/java"))) {
            for (Path test : tests.sorted().toList()) {
                String name = test.getFileName().toString().replace(".java", "");
                due("the table has no " + name, readme.stream().anyMatch(line -> line.startsWith("| `" + name + "` |")));
            }
        }
    }
}
