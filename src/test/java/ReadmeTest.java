import java.lang.reflect.Method;
import java.lang.reflect.Modifier;
import java.nio.file.Files;
import java.nio.file.Path;
import java.util.regex.Matcher;
import java.util.regex.Pattern;

/** README.md says what is so: its examples answer what stands behind them; run where the project stands. */
public final class ReadmeTest {

    private static final Pattern ASKED = Pattern.compile("line\\.(\\w+)\\(([^)]*)\\); *// (-?\\d+|true|false)(:.*)?");
    private static final Pattern TOLD = Pattern.compile("Tape\\.tell\\(line, \"([^\"]*)\"\\); *// (-?\\d+)(:.*)?");
    private static final Pattern ROW = Pattern.compile("(?m)^\\| `(\\w+)\\(([^)]*)\\)` \\|.*\\|$");

    private static int right = 0;
    private static int wrong = 0;
    private static GreenLine line = null;

    public static void main(String[] args) throws Exception {
        String readme = Files.readString(Path.of("README.md"));
        Matcher blocks = Pattern.compile("(?s)```java\n(.*?)```").matcher(readme);
        while (blocks.find()) {
            line = null;
            for (String row : blocks.group(1).split("\n")) example(row);
        }
        table(readme);
        due("tests to run", readme.contains(".ci/run"), true);
        System.out.println("ReadmeTest: " + right + " passed, " + wrong + " failed");
        if (wrong > 0) System.exit(1);
    }

    private static void due(String what, Object got, Object want) {
        if (got.equals(want)) {
            right++;
        } else {
            wrong++;
            System.out.println("README.md: " + what + " is " + got + ", due is " + want);
        }
    }

    private static void example(String row) throws Exception {
        Matcher asked = ASKED.matcher(row);
        Matcher told = TOLD.matcher(row);
        if (row.equals("GreenLine line = new GreenLine();")) {
            line = new GreenLine();
        } else if (line != null && asked.matches()) {
            due(row, answer(asked.group(1), asked.group(2)), asked.group(3));
        } else if (line != null && told.matches()) {
            due(row, "" + Tape.tell(line, told.group(1)), told.group(2));
        } else {
            due("\"" + row + "\" that can be run", row.startsWith("// "), true);
        }
    }

    private static String answer(String name, String given) throws Exception {
        String[] words = given.isEmpty() ? new String[0] : given.split(", ");
        Object[] numbers = new Object[words.length];
        Class<?>[] types = new Class<?>[words.length];
        for (int k = 0; k < words.length; k++) {
            numbers[k] = words[k].equals("GreenLine.NONE") ? GreenLine.NONE : Integer.parseInt(words[k]);
            types[k] = int.class;
        }
        return "" + GreenLine.class.getMethod(name, types).invoke(line, numbers);
    }

    private static void table(String readme) {
        int calls = 0;
        for (Method m : GreenLine.class.getDeclaredMethods()) {
            if (!Modifier.isPublic(m.getModifiers())) continue;
            calls++;
            int rows = 0;
            Matcher row = ROW.matcher(readme);
            while (row.find()) {
                int takes = row.group(2).isEmpty() ? 0 : row.group(2).split(", ").length;
                if (row.group(1).equals(m.getName()) && takes == m.getParameterCount()) rows++;
            }
            due("rows of " + m.getName(), rows, 1);
        }
        due("calls", calls, 26);
    }
}
