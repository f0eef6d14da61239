import java.io.IOException;
import java.lang.reflect.Field;
import java.lang.reflect.Method;
import java.lang.reflect.Modifier;
import java.nio.file.Files;
import java.nio.file.Path;
import java.util.List;
import java.util.Set;
import java.util.TreeSet;
import java.util.regex.Matcher;
import java.util.regex.Pattern;

/** What README.md says of the class: its table of calls, its table of constants and its example. */
public final class ReadmeTest {
    private static final Pattern CALL_ROW = Pattern.compile("\\| `(\\w+) (\\w+)\\(([^)]*)\\)` \\| .+ \\|");
    private static final Pattern CONSTANT_ROW = Pattern.compile("\\| `([A-Z]+)` \\| (-?\\d+) \\| .+ \\|");
    private static final Pattern EXAMPLE_CALL =
        Pattern.compile("atlas\\.(\\w+)\\(([^)]*)\\);\\s+// (-?\\w+)\\b.*");

    private static int wrong = 0;

    private static void due(String what, Object got, Object want) {
        if (!want.equals(got)) {
            wrong++;
            System.out.println("README.md: " + what + " is " + got + ", due is " + want);
        }
    }

    public static void main(String[] args) throws IOException, ReflectiveOperationException {
        List<String> lines = Files.readAllLines(Path.of("README.md"));
        tableOfCalls(lines);
        tableOfConstants(lines);
        example(lines);
        System.out.println(wrong == 0 ? "README.md tells the truth" : wrong + " rows of README.md are wrong");
        if (wrong != 0) {
            System.exit(1);
        }
    }

    private static void tableOfCalls(List<String> lines) {
        Set<String> told = new TreeSet<>();
        for (String line : lines) {
            Matcher row = CALL_ROW.matcher(line);
            if (row.matches()) {
                told.add(row.group(1) + " " + row.group(2) + "/" + words(row.group(3)).length);
            }
        }
        Set<String> there = new TreeSet<>();
        for (Method m : FaceAtlas.class.getDeclaredMethods()) {
            if (Modifier.isPublic(m.getModifiers())) {
                there.add(m.getReturnType() + " " + m.getName() + "/" + m.getParameterCount());
            }
        }
        due("the table of calls", told, there);
    }

    private static void tableOfConstants(List<String> lines) throws ReflectiveOperationException {
        Set<String> told = new TreeSet<>();
        for (String line : lines) {
            Matcher row = CONSTANT_ROW.matcher(line);
            if (row.matches()) {
                told.add(row.group(1) + " " + row.group(2));
            }
        }
        Set<String> there = new TreeSet<>();
        for (Field f : FaceAtlas.class.getDeclaredFields()) {
            if (Modifier.isPublic(f.getModifiers())) {
                there.add(f.getName() + " " + f.getInt(null));
            }
        }
        due("the table of constants", told, there);
    }

    private static void example(List<String> lines) throws ReflectiveOperationException {
        FaceAtlas atlas = null;
        Set<String> shown = new TreeSet<>();
        for (String line : lines) {
            if (line.equals("FaceAtlas atlas = new FaceAtlas();")) {
                atlas = new FaceAtlas();
            } else if (line.startsWith("atlas.")) {
                Matcher call = EXAMPLE_CALL.matcher(line);
                due("a row of the example that can be read, '" + line + "',", call.matches(), true);
                if (call.matches()) {
                    shown.add(call.group(1));
                    due(line, answer(atlas, call.group(1), words(call.group(2))), number(call.group(3)));
                }
            }
        }
        due("the count of different calls in the example", shown.size(), 11);
    }

    private static String answer(FaceAtlas atlas, String name, String[] words)
            throws ReflectiveOperationException {
        Class<?>[] types = new Class<?>[words.length];
        Object[] numbers = new Object[words.length];
        for (int i = 0; i < words.length; i++) {
            types[i] = int.class;
            numbers[i] = Integer.valueOf(words[i]);
        }
        return FaceAtlas.class.getMethod(name, types).invoke(atlas, numbers).toString();
    }

    /** The example writes a constant by its name where that alone is the answer. */
    private static String number(String word) throws ReflectiveOperationException {
        return word.matches("[A-Z]+") ? FaceAtlas.class.getField(word).get(null).toString() : word;
    }

    private static String[] words(String list) {
        return list.isEmpty() ? new String[0] : list.split(", ");
    }
}
