import java.lang.reflect.Constructor;
import java.lang.reflect.Field;
import java.lang.reflect.Method;
import java.lang.reflect.Modifier;
import java.nio.file.Files;
import java.nio.file.Path;
import java.util.ArrayList;
import java.util.Arrays;
import java.util.Collections;
import java.util.List;

/** The public face is the document's, and the source keeps to what can be seen of LANGUAGE.md by looking at it. */
public final class Face {
    private static final String[] FACE = {
        "int alters(int,int,int,int,int,int)", "int arranges()", "int bears(int,int)", "int bolt(int,int,int,int,int)",
        "int chance(int,int,int)", "int clears()", "int count(int)", "boolean end(int)", "int event(int)", "int events()",
        "int falls(int,int,int)", "int fits(int)", "int force(int,int)", "int hardest(int)", "int idle(int)", "int joint()",
        "int margin(int)", "int opens(int)", "int order()", "int part(int,int)", "int peak()", "int pitch(int,int)",
        "int plates(int,int)", "int replays()", "long row(int)", "int set(int,int)", "int sheds(int)", "int sign(int)",
        "int slip(int,int)", "int state(int,int)", "int stretch(int)", "boolean swaps(int,int)", "int takes(int,boolean)",
        "int tunes(int)", "int when(int,int)", "int without(int)", "int work(int)",
    };
    private static final String THROWN = "[class java.util.NoSuchElementException]";
    private static final String[] NEVER = {
        "catch", "finally", "synchronized", "assert ", "->", "::", "instanceof", "Exact(", "System.out", "Object",
        "double", "float", "var ", "@", "static {", "equals", "hashCode", "toString", "\" +", "+ \"",
    };
    private static int wrong = 0;

    public static void main(String[] args) throws Exception {
        members();
        source();
        System.out.println("Face: " + wrong + " wrong");
        if (wrong != 0) {
            System.exit(1);
        }
    }

    private static void due(String what, boolean so) {
        if (!so) {
            wrong++;
            System.out.println("Face: " + what);
        }
    }

    private static void members() {
        int mods = BoltRow.class.getModifiers();
        due("the class is public and final", Modifier.isPublic(mods) && Modifier.isFinal(mods));
        List<String> names = new ArrayList<>();
        List<String> found = new ArrayList<>();
        for (Method m : BoltRow.class.getDeclaredMethods()) {
            if (Modifier.isPublic(m.getModifiers())) {
                List<String> types = new ArrayList<>();
                for (Class<?> type : m.getParameterTypes()) {
                    types.add(type.getSimpleName());
                }
                found.add(m.getReturnType().getSimpleName() + " " + m.getName() + "(" + String.join(",", types) + ")");
                names.add(m.getName());
                // part and row alone say what they throw.
                boolean throwing = m.getName().equals("part") || m.getName().equals("row");
                String says = Arrays.toString(m.getExceptionTypes());
                due(m + " says that it throws " + says, says.equals(throwing ? THROWN : "[]"));
            }
        }
        due("NONE is -1", BoltRow.NONE == -1);
        List<String> want = new ArrayList<>(Arrays.asList(FACE));
        Collections.sort(want);
        Collections.sort(found);
        due("the methods are " + found, want.equals(found));
        for (Method m : BoltRow.class.getDeclaredMethods()) {
            boolean open = Modifier.isPublic(m.getModifiers());
            due(m + " is private", open || Modifier.isPrivate(m.getModifiers()));
            due(m + " bears a public name", open || !names.contains(m.getName()));
        }
        for (Constructor<?> c : BoltRow.class.getDeclaredConstructors()) {
            due(c + " is public and empty", Modifier.isPublic(c.getModifiers()) && c.getParameterCount() == 0);
        }
        for (Field f : BoltRow.class.getDeclaredFields()) {
            due(f + " is private", f.getName().equals("NONE") || Modifier.isPrivate(f.getModifiers()));
            due(f + " is final", !Modifier.isStatic(f.getModifiers()) || Modifier.isFinal(f.getModifiers()));
        }
        for (Class<?> c : BoltRow.class.getDeclaredClasses()) {
            due(c + " is static", Modifier.isStatic(c.getModifiers()) && !Modifier.isPublic(c.getModifiers()));
            int fields = 0;
            for (Field f : c.getDeclaredFields()) {
                fields += Modifier.isStatic(f.getModifiers()) ? 0 : 1;
            }
            due(c + " has " + fields + " fields", fields <= 20);
            for (Method m : c.getDeclaredMethods()) {
                due(m + " bears a public name", !names.contains(m.getName()));
            }
        }
        due("the classes are few", BoltRow.class.getDeclaredClasses().length <= 12);
    }

    private static void source() throws Exception {
        List<String> lines = Files.readAllLines(Path.of("src/main/java/BoltRow.java"));
        int opened = -1;
        for (int k = 0; k < lines.size(); k++) {
            String line = lines.get(k);
            String code = line.contains("//") ? line.substring(0, line.indexOf("//")) : line;
            String bare = code.trim();
            if (bare.startsWith("*") || bare.startsWith("/*")) {
                continue;
            }
            for (String never : NEVER) {
                due("line " + (k + 1) + " has " + never, !code.contains(never));
            }
            due("line " + (k + 1) + " imports", !code.startsWith("import") || code.equals("import java.util.NoSuchElementException;"));
            due("line " + (k + 1) + " is long", line.length() <= 125);
            boolean head = code.matches("( {4}| {8})[\\w<>\\[\\]].*\\(.*\\) (throws \\w+ )?\\{") && !bare.startsWith("if");
            if (head) {
                opened = k;
            }
            if (opened >= 0 && bare.equals("}") && indent(code) == indent(lines.get(opened))) {
                due("the method of line " + (opened + 1) + " is long", k - opened <= 60);
                opened = -1;
            }
        }
    }

    private static int indent(String line) {
        return line.length() - line.stripLeading().length();
    }
}
