import java.io.DataInputStream;
import java.lang.reflect.Constructor;
import java.lang.reflect.Field;
import java.lang.reflect.Method;
import java.lang.reflect.Modifier;
import java.nio.file.Files;
import java.nio.file.Path;
import java.util.ArrayList;
import java.util.Arrays;
import java.util.List;
import java.util.TreeSet;
import java.util.regex.Pattern;

/** The public face, and what of the language's rules can be seen in the source and the compiled classes; run where the project stands. */
public final class LanguageTest {

    private static final String[] FACE = {
        "int part(int,int,int,int,int,int)", "int clear(int)", "int raw(int,int)", "boolean probe(int,int,int,int)",
        "boolean channel(int,int,int,int)", "int out(int,int)", "boolean base(int,int,int)", "boolean mode(int,int)",
        "int feed(int,int,int,int,int)", "int end(int)", "int text()", "int fault(int)", "boolean by(int)",
        "int swept(int,int)", "int glow(int,int,int)", "int lit(int,int,int)", "int otherwise(int,int,int)",
        "int caught(int,int)", "boolean photo(int,int)", "int shoot(int,int)", "int settings(int,int,int)",
        "int measure(int,int,int,int)", "int parting(int,int,int,int)", "int image()", "int back()", "int about(int)",
    };

    /** What of the library the class calls; rule 4 allows more, so this may grow by what stands there. */
    private static final List<String> LIBRARY = List.of("Object.<init>()V", "String.length()I", "String.charAt(I)C",
            "Math.min(II)I", "Math.max(II)I", "Math.floorDiv(II)I", "Integer.bitCount(I)I");

    private static int right = 0;
    private static int wrong = 0;

    public static void main(String[] args) throws Exception {
        face();
        compiled();
        source(Files.readString(Path.of("src/main/java/GreenLine.java")));
        System.out.println("LanguageTest: " + right + " passed, " + wrong + " failed");
        if (wrong > 0) System.exit(1);
    }

    private static void due(String what, boolean is) {
        if (is) {
            right++;
        } else {
            wrong++;
            System.out.println("not so: " + what);
        }
    }

    private static String shape(Method m) {
        List<String> types = new ArrayList<>();
        for (Class<?> type : m.getParameterTypes()) types.add(type.getSimpleName());
        return m.getReturnType().getSimpleName() + " " + m.getName() + "(" + String.join(",", types) + ")";
    }

    private static void face() {
        TreeSet<String> open = new TreeSet<>();
        TreeSet<String> names = new TreeSet<>();
        TreeSet<String> hidden = new TreeSet<>();
        for (Method m : GreenLine.class.getDeclaredMethods()) {
            if (Modifier.isPrivate(m.getModifiers())) {
                hidden.add(m.getName());
            } else {
                open.add(shape(m));
                names.add(m.getName());
                due(m.getName() + " is public and of an object",
                        (m.getModifiers() & (Modifier.PUBLIC | Modifier.STATIC)) == Modifier.PUBLIC);
            }
        }
        due("the methods are the document's: " + open, open.equals(new TreeSet<>(Arrays.asList(FACE))));
        hidden.retainAll(names);
        due("no private method bears a public one's name: " + hidden, hidden.isEmpty());
        for (Field f : GreenLine.class.getDeclaredFields()) {
            due(f.getName() + " is private", f.getName().equals("NONE") || Modifier.isPrivate(f.getModifiers()));
        }
        Constructor<?>[] constructors = GreenLine.class.getDeclaredConstructors();
        due("one constructor", constructors.length == 1 && constructors[0].getParameterCount() == 0
                && Modifier.isPublic(constructors[0].getModifiers()));
        due("public and final", (GreenLine.class.getModifiers() & (Modifier.PUBLIC | Modifier.FINAL))
                == (Modifier.PUBLIC | Modifier.FINAL));
        for (Class<?> inside : GreenLine.class.getDeclaredClasses()) {
            due(inside + " is private and static", (inside.getModifiers() & (Modifier.PRIVATE | Modifier.STATIC))
                    == (Modifier.PRIVATE | Modifier.STATIC));
            due(inside + " has some twenty fields", inside.getDeclaredFields().length <= 20);
            for (Method m : inside.getDeclaredMethods()) {
                due(m.getName() + " of " + inside + " bears no public name", !names.contains(m.getName()));
            }
        }
        due("some twelve classes", GreenLine.class.getDeclaredClasses().length < 12);
    }

    /** What the compiler made of it calls no library but the allowed, and takes no more than seven parameters. */
    private static void compiled() throws Exception {
        List<Class<?>> classes = new ArrayList<>(Arrays.asList(GreenLine.class.getDeclaredClasses()));
        classes.add(GreenLine.class);
        for (Class<?> one : classes) {
            for (String called : libraryCalls(one)) due(one + " may call " + called, LIBRARY.contains(called));
            for (Method m : one.getDeclaredMethods()) {
                due(m.getName() + " takes seven at most", m.getParameterCount() <= 7);
            }
            for (Field f : one.getDeclaredFields()) {
                due(f.getName() + " of " + one + " is no state of all objects",
                        !Modifier.isStatic(f.getModifiers()) || Modifier.isFinal(f.getModifiers()));
            }
        }
    }

    /** The methods of the library that a class's table of constants names. */
    private static List<String> libraryCalls(Class<?> one) throws Exception {
        List<String> calls = new ArrayList<>();
        try (DataInputStream in = new DataInputStream(one.getResourceAsStream(one.getName() + ".class"))) {
            in.readLong();
            int count = in.readUnsignedShort();
            int[] kinds = new int[count];
            int[] firsts = new int[count];
            int[] seconds = new int[count];
            String[] words = new String[count];
            for (int k = 1; k < count; k++) {
                kinds[k] = in.readUnsignedByte();
                switch (kinds[k]) {
                    case 1: words[k] = in.readUTF(); break;
                    case 3: case 4: in.readInt(); break;
                    case 5: case 6: in.readLong(); k++; break;
                    case 7: case 8: case 16: case 19: case 20: firsts[k] = in.readUnsignedShort(); break;
                    case 9: case 10: case 11: case 12:
                        firsts[k] = in.readUnsignedShort();
                        seconds[k] = in.readUnsignedShort();
                        break;
                    default: calls.add("a constant of kind " + kinds[k]); return calls;
                }
            }
            for (int k = 1; k < count; k++) {
                if (kinds[k] != 10 && kinds[k] != 11) continue;
                String owner = words[firsts[firsts[k]]];
                String called = words[firsts[seconds[k]]] + words[seconds[seconds[k]]];
                if (!owner.startsWith("GreenLine")) calls.add(owner.replace("java/lang/", "") + "." + called);
            }
        }
        return calls;
    }

    private static void source(String source) {
        String code = source.replaceAll("(?s)/\\*.*?\\*/", "").replaceAll("//[^\n]*", "");
        String[] words = {"throw", "throws", "try", "catch", "synchronized", "assert", "import", "package", "protected",
            "double", "float", "Object", "System", "Thread", "Random", "hashCode", "toString", "volatile", "native"};
        for (String word : words) {
            due("no " + word, !Pattern.compile("\\b" + word + "\\b").matcher(code).find());
        }
        due("no lambda, no method reference", !code.contains("->") && !code.contains("::"));
        due("signs are 1 to 127", source.chars().allMatch(c -> c < 128));
        due("nothing is made but in constructors and fields", madeInMethods(code).isEmpty());
        due("methods have some sixty lines", longestMethod(code) <= 60);
    }

    /** How many lines the longest method has; a line that opens one ends with a bracket and a brace. */
    private static int longestMethod(String code) {
        int longest = 0;
        String[] lines = code.split("\n");
        for (int k = 0; k < lines.length; k++) {
            if (!lines[k].matches(" {4}(    )?\\w.*\\) \\{")) continue;
            String end = lines[k].replaceAll("\\S.*", "") + "}";
            int last = k;
            while (last < lines.length && !lines[last].equals(end)) last++;
            longest = Math.max(longest, last - k + 1);
        }
        due("methods are found", longest > 20);
        return longest;
    }

    /** Lines that make something, other than a field's, or an element's in a constructor. */
    private static List<String> madeInMethods(String code) {
        List<String> lines = new ArrayList<>();
        for (String line : code.split("\n")) {
            boolean field = line.matches(" {4}(    )?(private )?final .*= new .*;") || line.contains("Program program = new");
            boolean element = line.matches(" +\\w+\\[k\\] = new \\w+\\(k?\\);");
            if (line.matches(".*\\bnew\\b.*") && !field && !element) lines.add(line);
        }
        for (String line : lines) System.out.println("makes: " + line);
        return lines;
    }
}
