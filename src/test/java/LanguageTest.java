import java.lang.reflect.Field;
import java.lang.reflect.Modifier;
import java.nio.file.Files;
import java.nio.file.Path;
import java.util.Arrays;
import java.util.HashSet;
import java.util.Set;
import java.util.regex.Matcher;
import java.util.regex.Pattern;

/** The rules of LANGUAGE.md that can be seen in the program's text. */
public final class LanguageTest {
    private static int wrong = 0;

    public static void main(String[] args) throws Exception {
        String source = Files.readString(Path.of("src/main/java/PegStrings.java"));
        String code = source.replaceAll("(?s)/\\*.*?\\*/", "").replaceAll("//[^\n]*", "");
        no(code, "throw|try|catch|finally|synchronized|assert|throws|protected|package|instanceof|native|volatile");
        no(code, "hashCode|toString|equals|valueOf|Exact\\w*|System\\.(?!arraycopy)\\w+|Thread|Random|Object|var");
        noText(code, "->|::|\\blong\\[\\]\\[\\]\\[\\]|new \\w+\\([^)]*\\) \\{|\" \\+|\\+ \"");
        onlyImports(code);
        privateNames(code);
        shortMethods(source);
        fewClassesAndFields();
        for (int i = 0; i < source.length(); i++) {
            if (source.charAt(i) > 126) {
                fail("a sign above 126 at " + i);
            }
        }
        System.out.println(wrong == 0 ? "the program keeps to the rules looked at" : wrong + " breaches");
        if (wrong != 0) {
            System.exit(1);
        }
    }

    private static void fail(String what) {
        wrong++;
        System.out.println(what);
    }

    private static void no(String code, String words) {
        noText(code, "\\b(" + words + ")\\b");
    }

    private static void noText(String code, String pattern) {
        Matcher matcher = Pattern.compile(pattern).matcher(code);
        while (matcher.find()) {
            fail("not in the language: " + matcher.group());
        }
    }

    private static void onlyImports(String code) {
        Matcher matcher = Pattern.compile("import ([^;]+);").matcher(code);
        while (matcher.find()) {
            if (!matcher.group(1).equals("java.util.Arrays")) {
                fail("import " + matcher.group(1));
            }
        }
    }

    /** No method but a public one bears the name of a public one; and static fields are final. */
    private static void privateNames(String code) {
        Set<String> open = new HashSet<>();
        Set<String> others = new HashSet<>();
        Matcher matcher = Pattern.compile("(?m)^ +((?:\\w+ )*?)[\\w\\[\\]]+ (\\w+)\\([^;{]*\\) \\{$").matcher(code);
        while (matcher.find()) {
            if (!matcher.group(1).contains("else") && !matcher.group(2).matches("if|for|while|switch")) {
                (matcher.group(1).contains("public") ? open : others).add(matcher.group(2));
            }
        }
        if (open.size() != 47 || others.size() < 20) {
            fail("methods found: " + open.size() + " public ones, " + others.size() + " others");
        }
        others.retainAll(open);
        if (!others.isEmpty()) {
            fail("names of public methods used again: " + others);
        }
        Matcher fields = Pattern.compile("(?m)^.*\\bstatic\\b[^(\n]*[=;].*$").matcher(code);
        while (fields.find()) {
            if (!fields.group().contains("static final")) {
                fail("not final: " + fields.group());
            }
        }
    }

    private static void shortMethods(String source) {
        String[] lines = source.split("\n");
        for (int i = 0; i < lines.length; i++) {
            Matcher head = Pattern.compile("^( {4}| {8})(?! ).*\\) \\{$").matcher(lines[i]);
            if (head.find() && !lines[i].contains("class ")) {
                int end = i;
                while (!lines[end].equals(head.group(1) + "}")) {
                    end++;
                }
                if (end - i > 60 || lines[i].chars().filter(c -> c == ',').count() > 6) {
                    fail("too long: " + lines[i]);
                }
            }
        }
    }

    /** At most twelve classes, static ones inside the one, and none with more than twenty fields beside constants. */
    private static void fewClassesAndFields() {
        Class<?>[] inside = PegStrings.class.getDeclaredClasses();
        if (inside.length + 1 > 12) {
            fail("classes: " + (inside.length + 1));
        }
        fewFields(PegStrings.class);
        for (Class<?> one : inside) {
            if (!Modifier.isStatic(one.getModifiers())) {
                fail("not static: " + one.getName());
            }
            fewFields(one);
        }
    }

    private static void fewFields(Class<?> one) {
        Field[] fields = one.getDeclaredFields();
        long many = Arrays.stream(fields).filter(field -> !Modifier.isStatic(field.getModifiers())).count();
        if (many > 20) {
            fail("fields of " + one.getName() + ": " + many);
        }
    }
}
