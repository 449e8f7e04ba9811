import java.lang.reflect.Constructor;
import java.lang.reflect.Field;
import java.lang.reflect.Method;
import java.lang.reflect.Modifier;
import java.nio.file.Files;
import java.nio.file.Path;
import java.util.ArrayList;
import java.util.Arrays;
import java.util.List;
import java.util.TreeSet;
import java.util.regex.Pattern;

/** The public face, and what of the language's rules can be seen in the source; run where the project stands. */
public final class LanguageTest {

    private static final String[] FACE = {
        "int part(int,int,int,int,int,int)", "int clear(int)", "int raw(int,int)", "boolean probe(int,int,int,int)",
        "boolean channel(int,int,int,int)", "int out(int,int)", "boolean base(int,int,int)", "boolean mode(int,int)",
        "int feed(int,int,int,int,int)", "int end(int)", "int text()", "int fault(int)", "boolean by(int)",
        "int swept(int,int)", "int glow(int,int,int)", "int lit(int,int,int)", "int otherwise(int,int,int)",
        "int caught(int,int)", "boolean photo(int,int)", "int shoot(int,int)", "int settings(int,int,int)",
        "int measure(int,int,int,int)", "int parting(int,int,int,int)", "int image()", "int back()", "int about(int)",
    };

    private static int right = 0;
    private static int wrong = 0;

    public static void main(String[] args) throws Exception {
        face();
        source(Files.readString(Path.of("src/main/java/GreenLine.java")));
        System.out.println("LanguageTest: " + right + " passed, " + wrong + " failed");
        if (wrong > 0) System.exit(1);
    }

    private static void due(String what, boolean is) {
        if (is) {
            right++;
        } else {
            wrong++;
            System.out.println("not so: " + what);
        }
    }

    private static String shape(Method m) {
        List<String> types = new ArrayList<>();
        for (Class<?> type : m.getParameterTypes()) types.add(type.getSimpleName());
        return m.getReturnType().getSimpleName() + " " + m.getName() + "(" + String.join(",", types) + ")";
    }

    private static void face() {
        TreeSet<String> open = new TreeSet<>();
        TreeSet<String> names = new TreeSet<>();
        TreeSet<String> hidden = new TreeSet<>();
        for (Method m : GreenLine.class.getDeclaredMethods()) {
            if (Modifier.isPrivate(m.getModifiers())) {
                hidden.add(m.getName());
            } else {
                open.add(shape(m));
                names.add(m.getName());
                due(m.getName() + " is public and of an object",
                        (m.getModifiers() & (Modifier.PUBLIC | Modifier.STATIC)) == Modifier.PUBLIC);
            }
        }
        due("the methods are the document's: " + open, open.equals(new TreeSet<>(Arrays.asList(FACE))));
        hidden.retainAll(names);
        due("no private method bears a public one's name: " + hidden, hidden.isEmpty());
        for (Field f : GreenLine.class.getDeclaredFields()) {
            due(f.getName() + " is private", f.getName().equals("NONE") || Modifier.isPrivate(f.getModifiers()));
        }
        Constructor<?>[] constructors = GreenLine.class.getDeclaredConstructors();
        due("one constructor", constructors.length == 1 && constructors[0].getParameterCount() == 0
                && Modifier.isPublic(constructors[0].getModifiers()));
        due("public and final", (GreenLine.class.getModifiers() & (Modifier.PUBLIC | Modifier.FINAL))
                == (Modifier.PUBLIC | Modifier.FINAL));
        for (Class<?> inside : GreenLine.class.getDeclaredClasses()) {
            due(inside + " is private and static", (inside.getModifiers() & (Modifier.PRIVATE | Modifier.STATIC))
                    == (Modifier.PRIVATE | Modifier.STATIC));
            due(inside + " has some twenty fields", inside.getDeclaredFields().length <= 20);
            for (Method m : inside.getDeclaredMethods()) {
                due(m.getName() + " of " + inside + " bears no public name", !names.contains(m.getName()));
            }
        }
        due("some twelve classes", GreenLine.class.getDeclaredClasses().length < 12);
    }

    private static void source(String source) {
        String code = source.replaceAll("(?s)/\\*.*?\\*/", "").replaceAll("//[^\n]*", "");
        String[] words = {"throw", "throws", "try", "catch", "synchronized", "assert", "import", "package", "protected",
            "double", "float", "Object", "System", "Thread", "Random", "hashCode", "toString", "volatile", "native"};
        for (String word : words) {
            due("no " + word, !Pattern.compile("\\b" + word + "\\b").matcher(code).find());
        }
        due("no lambda, no method reference", !code.contains("->") && !code.contains("::"));
        due("signs are 1 to 127", source.chars().allMatch(c -> c < 128));
        due("nothing is made but in constructors and fields", madeInMethods(code).isEmpty());
    }

    /** Lines that make something, other than a field's, or an element's in a constructor. */
    private static List<String> madeInMethods(String code) {
        List<String> lines = new ArrayList<>();
        for (String line : code.split("\n")) {
            boolean field = line.matches(" {4}(    )?(private )?final .*= new .*;") || line.contains("Program program = new");
            boolean element = line.matches(" +\\w+\\[k\\] = new \\w+\\(k?\\);");
            if (line.matches(".*\\bnew\\b.*") && !field && !element) lines.add(line);
        }
        for (String line : lines) System.out.println("makes: " + line);
        return lines;
    }
}
