import java.lang.reflect.Method;
import java.nio.file.Files;
import java.nio.file.Path;
import java.util.ArrayList;
import java.util.Arrays;
import java.util.Comparator;
import java.util.LinkedHashMap;
import java.util.List;
import java.util.Map;

/** A test of its own for each sentence of the document; and each word of its promises stands in one of them. */
public final class SentenceTest extends Checks {
    private static final Path DOCUMENT = Path.of("../shared/DOC.md");
    private static final Class<?>[] SENTENCES = {
        SentencesOfTerms.class, Sentences1To16.class, Sentences17To32.class, Sentences33To48.class,
    };

    public static void main(String[] args) throws Exception {
        List<Method> tests = tests();
        for (Method test : tests) {
            Says says = test.getAnnotation(Says.class);
            label = test.getName() + " (" + says.at() + ", \"" + says.words() + "\")";
            int before = checked;
            test.invoke(null);
            if (checked == before) {
                fail("nothing checked");
            }
        }
        label = "the document";
        if (Files.exists(DOCUMENT)) {
            compares(tests, sections(Files.readString(DOCUMENT)));
        } else {
            System.out.println("no " + DOCUMENT + " here: the sentences are not compared with it");
        }
        System.out.print(tests.size() + " sentences, ");
        ends();
    }

    private static void fail(String what) {
        wrong++;
        System.out.println(label + ": " + what);
    }

    private static List<Method> tests() {
        List<Method> found = new ArrayList<>();
        for (Class<?> kind : SENTENCES) {
            Method[] methods = kind.getDeclaredMethods();
            Arrays.sort(methods, Comparator.comparing(Method::getName));
            for (Method method : methods) {
                if (method.isAnnotationPresent(Says.class)) {
                    found.add(method);
                }
            }
        }
        return found;
    }

    /** The document's texts by their headings; of a promise only what comes behind the call. */
    private static Map<String, String> sections(String document) {
        Map<String, String> found = new LinkedHashMap<>();
        for (String section : document.split("(?m)^## ")) {
            String heading = section.lines().findFirst().orElse("").replaceAll(":.*", "").strip();
            String text = section.substring(section.indexOf('\n') + 1).replace("```text", "").replace("```", "");
            if (heading.startsWith("Promise ")) {
                text = text.substring(text.indexOf("`:") + 2);
            }
            found.put(heading, text.replaceAll("\\s+", " ").strip());
        }
        return found;
    }

    private static void compares(List<Method> tests, Map<String, String> sections) {
        Map<String, boolean[]> quoted = new LinkedHashMap<>();
        sections.forEach((heading, text) -> quoted.put(heading, new boolean[text.length()]));
        for (Method test : tests) {
            Says says = test.getAnnotation(Says.class);
            String text = sections.getOrDefault(says.at(), "");
            int from = text.indexOf(says.words());
            if (from < 0) {
                fail(says.at() + " does not say: " + says.words());
                continue;
            }
            Arrays.fill(quoted.get(says.at()), from, from + says.words().length(), true);
        }
        sections.forEach((heading, text) -> {
            if (heading.equals("Terms") || heading.startsWith("Promise ")) {
                dueText("words of " + heading + " without a test", rest(text, quoted.get(heading)), "");
            }
        });
    }

    /** The words that no test stands for; signs between sentences aside, and the numbers of the terms. */
    private static String rest(String text, boolean[] quoted) {
        StringBuilder left = new StringBuilder();
        for (int i = 0; i < text.length(); i++) {
            left.append(quoted[i] ? ' ' : text.charAt(i));
        }
        return left.toString().replaceAll("\\b[IV]+\\.", " ").replaceAll("[\\s.,;:()]+", " ").strip();
    }
}
