import java.io.IOException;
import java.lang.reflect.Constructor;
import java.lang.reflect.Field;
import java.lang.reflect.Method;
import java.lang.reflect.Modifier;
import java.nio.file.Files;
import java.nio.file.Path;
import java.util.ArrayList;
import java.util.Arrays;
import java.util.List;
import java.util.stream.Collectors;

/** The public face: the members of the class, set beside those that the document writes out. */
public final class FaceTest extends Checks {
    private static final Path DOCUMENT = Path.of("../shared/DOC.md");

    public static void main(String[] args) throws IOException {
        label = "the face";
        if (Files.exists(DOCUMENT)) {
            List<String> due = promised(Files.readString(DOCUMENT));
            List<String> seen = seen();
            dueText("members not in the document:", without(seen, due), "");
            dueText("members of the document not there:", without(due, seen), "");
            due("members", seen.size(), due.size());
        } else {
            System.out.println("no " + DOCUMENT + " here: the face is not compared with it");
        }
        due("NONE", PegStrings.NONE, -1);
        due("public and final", PegStrings.class.getModifiers(), Modifier.PUBLIC | Modifier.FINAL);
        for (Class<?> inside : PegStrings.class.getDeclaredClasses()) {
            int seen = inside.getModifiers();
            due(inside.getName() + " is static", Modifier.isStatic(seen) ? 1 : 0, 1);
            due(inside.getName() + " is hidden", Modifier.isPublic(seen) || Modifier.isProtected(seen) ? 0 : 1, 1);
        }
        ends();
    }

    private static String without(List<String> some, List<String> others) {
        return some.stream().filter(one -> !others.contains(one)).collect(Collectors.joining("; "));
    }

    /** The members that the document writes out, the names of parameters and values of constants left out. */
    private static List<String> promised(String document) {
        String block = document.split("```java\n")[1].split("```")[0];
        List<String> found = new ArrayList<>();
        for (String line : block.split("\n")) {
            String member = line.strip();
            if (member.endsWith(";")) {
                found.add(member.replaceAll(" = .*", "").replaceAll("\\b(int|long) \\w+(?=[,)])", "$1").replace(";", ""));
            }
        }
        return found;
    }

    /** All members of the class that are not private. */
    private static List<String> seen() {
        List<String> found = new ArrayList<>();
        for (Field field : PegStrings.class.getDeclaredFields()) {
            add(found, field.getModifiers(), field.getType() + " " + field.getName());
        }
        for (Constructor<?> constructor : PegStrings.class.getDeclaredConstructors()) {
            add(found, constructor.getModifiers(), constructor.getName() + types(constructor.getParameterTypes()));
        }
        for (Method method : PegStrings.class.getDeclaredMethods()) {
            String head = method.getReturnType() + " " + method.getName();
            add(found, method.getModifiers(), head + types(method.getParameterTypes()));
        }
        return found;
    }

    private static void add(List<String> found, int modifiers, String member) {
        if (!Modifier.isPrivate(modifiers)) {
            found.add((Modifier.toString(modifiers) + " " + member).strip());
        }
    }

    private static String types(Class<?>[] types) {
        return Arrays.stream(types).map(Class::getName).collect(Collectors.joining(", ", "(", ")"));
    }
}
