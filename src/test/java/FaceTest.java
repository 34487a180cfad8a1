import java.lang.reflect.Constructor;
import java.lang.reflect.Field;
import java.lang.reflect.Method;
import java.lang.reflect.Modifier;
import java.nio.file.Files;
import java.nio.file.Path;
import java.util.ArrayList;
import java.util.Arrays;
import java.util.List;
import java.util.Set;
import java.util.TreeSet;
import java.util.regex.Matcher;
import java.util.regex.Pattern;

/** The public face is the document's and no more, and the source keeps to what LANGUAGE.md lets a reader look for. */
public final class FaceTest {
    private static final Path DOCUMENT = Path.of("../shared/DOC.md");
    private static final Path SOURCE = Path.of("src/main/java/SaidOnce.java");

    public static void main(String[] args) throws Exception {
        Check check = new Check("FaceTest");
        faceOfTheDocument(check);
        membersAreHidden(check);
        sourceKeepsToTheLanguage(check);
        check.finish();
    }

    private static void faceOfTheDocument(Check check) throws Exception {
        String text = Files.readString(DOCUMENT);
        String face = text.substring(text.indexOf("```java"), text.indexOf("```\n\n## Terms"));
        Set<String> due = new TreeSet<>();
        Matcher m = Pattern.compile("public (\\w+) (\\w+)\\(([^)]*)\\)(?: throws ([\\w, ]+))?;").matcher(face);
        while (m.find()) {
            List<String> types = new ArrayList<>();
            for (String one : m.group(3).isEmpty() ? new String[0] : m.group(3).split(", ")) {
                types.add(one.split(" ")[0]);
            }
            due.add(m.group(1) + " " + m.group(2) + types + " " + (m.group(4) == null ? "" : m.group(4)));
        }
        Set<String> got = new TreeSet<>();
        for (Method one : SaidOnce.class.getDeclaredMethods()) {
            if (Modifier.isPublic(one.getModifiers())) {
                got.add(one.getReturnType().getSimpleName() + " " + one.getName() + names(one.getParameterTypes()) + " "
                        + String.join(", ", names(one.getExceptionTypes())));
            }
        }
        check.due("methods of the document", due.size(), 49);
        if (!due.equals(got)) {
            System.out.println("due " + due + "\ngot " + got);
        }
        check.due("the face is the document's", due.equals(got), true);
        check.due("NONE", SaidOnce.NONE, -1);
        check.due("the class is final", Modifier.isFinal(SaidOnce.class.getModifiers()), true);
        check.due("one constructor", SaidOnce.class.getDeclaredConstructors().length, 1);
        for (Constructor<?> one : SaidOnce.class.getDeclaredConstructors()) {
            check.due("it is public", Modifier.isPublic(one.getModifiers()) && one.getParameterCount() == 0, true);
        }
    }

    private static List<String> names(Class<?>[] types) {
        return Arrays.stream(types).map(Class::getSimpleName).toList();
    }

    private static void membersAreHidden(Check check) {
        Set<String> publicNames = new TreeSet<>();
        for (Method one : SaidOnce.class.getDeclaredMethods()) {
            if (Modifier.isPublic(one.getModifiers())) {
                publicNames.add(one.getName());
            }
        }
        for (Method one : SaidOnce.class.getDeclaredMethods()) {
            if (!Modifier.isPublic(one.getModifiers())) {
                check.due(one.getName() + " is private", Modifier.isPrivate(one.getModifiers()), true);
                check.due(one.getName() + " has a name of its own", publicNames.contains(one.getName()), false);
            }
        }
        for (Field one : SaidOnce.class.getDeclaredFields()) {
            boolean isNone = one.getName().equals("NONE");
            check.due(one.getName() + " is hidden", isNone || Modifier.isPrivate(one.getModifiers()), true);
        }
        check.due("twelve classes at most", SaidOnce.class.getDeclaredClasses().length < 12, true);
        for (Class<?> one : SaidOnce.class.getDeclaredClasses()) {
            check.due(one.getName() + " is static", Modifier.isStatic(one.getModifiers()), true);
            for (Method method : one.getDeclaredMethods()) {
                check.due(method + " has a name of its own", publicNames.contains(method.getName()), false);
                check.due(method + " takes seven at most", method.getParameterCount() <= 7, true);
            }
            int fields = 0;
            for (Field field : one.getDeclaredFields()) {
                fields += Modifier.isStatic(field.getModifiers()) ? 0 : 1;
                check.due(field + " static is final", !Modifier.isStatic(field.getModifiers())
                        || Modifier.isFinal(field.getModifiers()), true);
            }
            check.due(one.getName() + " has twenty fields at most", fields <= 20, true);
        }
    }

    private static void sourceKeepsToTheLanguage(Check check) throws Exception {
        String source = Files.readString(SOURCE);
        for (String word : List.of("->", "::", "catch", "finally", "synchronized", "assert", "instanceof", "while (true)",
                "System.out", "random", "Exact(", "static {", "@")) {
            check.due("the source has no " + word, source.contains(word), false);
        }
        for (String line : source.split("\n")) {
            if (line.startsWith("import")) {
                check.due(line, line.equals("import java.util.Arrays;")
                        || line.equals("import java.util.NoSuchElementException;"), true);
            }
        }
    }
}
