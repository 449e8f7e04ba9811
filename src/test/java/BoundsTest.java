import java.lang.reflect.Method;
import java.lang.reflect.Modifier;
import java.nio.file.Files;
import java.nio.file.Path;
import java.util.Arrays;
import java.util.Comparator;

/**
 * Each sentence of the document that names a bound has a test of its own: a method without arguments of the classes
 * below, which names the promise and the sentence. Where the document is at hand, no word of its terms and promises
 * may be left that none of them names. Run where the project stands.
 */
public final class BoundsTest {

    private static final Class<?>[] TESTS = {ObjectBounds.class, SignalBounds.class, TextBounds.class,
        FaultBounds.class, SweepBounds.class, GuessBounds.class};

    private static final Path DOCUMENT = Path.of("../shared/DOC.md");

    public static void main(String[] args) throws Exception {
        int tests = 0;
        for (Class<?> group : TESTS) {
            Method[] methods = group.getDeclaredMethods();
            Arrays.sort(methods, Comparator.comparing(Method::getName));
            for (Method test : methods) {
                if (Modifier.isPrivate(test.getModifiers()) || test.getParameterCount() > 0) continue;
                run(test);
                tests++;
            }
        }
        for (int promise = 1; promise <= 27; promise++) {
            Bounds.fact("promise " + promise + " is named", Bounds.promises.contains(promise));
        }
        if (Files.exists(DOCUMENT)) wordsThatNoTestNames(Files.readString(DOCUMENT));
        System.out.println("BoundsTest: " + tests + " sentences, " + Bounds.right + " passed, "
                + Bounds.wrong + " failed");
        if (Bounds.wrong > 0) System.exit(1);
    }

    private static void run(Method test) throws Exception {
        int named = Bounds.sentences.size();
        int asked = Bounds.right + Bounds.wrong;
        test.invoke(null);
        String name = test.getDeclaringClass().getName() + "." + test.getName();
        Bounds.fact(name + " names one sentence", Bounds.sentences.size() == named + 1);
        Bounds.fact(name + " asks something", Bounds.right + Bounds.wrong > asked + 1);
    }

    /** Heads, the face's code and its signatures are no sentences. */
    private static String sentencesOf(String document) {
        String bare = document.replaceAll("(?s)```java.*?```", "").replaceAll("(?m)^(## .*|```.*|`[^`]*`:)", "")
                .replaceAll("==== I+\\.", "").replaceAll("\\s+", " ");
        int from = bare.indexOf("An object is used for");
        int to = bare.indexOf("How the state is held");
        return from >= 0 && to >= from ? bare.substring(from, to) : bare;
    }

    private static void wordsThatNoTestNames(String document) {
        String text = sentencesOf(document);
        boolean[] named = new boolean[text.length()];
        for (String sentence : Bounds.sentences) {
            Bounds.fact("the document has \"" + sentence + "\"", text.contains(sentence));
            for (int at = text.indexOf(sentence); at >= 0; at = text.indexOf(sentence, at + 1)) {
                Arrays.fill(named, at, at + sentence.length(), true);
            }
        }
        StringBuilder left = new StringBuilder();
        for (int k = 0; k < text.length(); k++) {
            if (!named[k]) left.append(text.charAt(k));
            if (k + 1 == text.length() || named[k] || named[k + 1]) {
                if (left.toString().matches(".*\\w.*")) Bounds.fact("a test names \"" + left + "\"", false);
                left.setLength(0);
            }
        }
    }
}
