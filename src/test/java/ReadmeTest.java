import java.io.IOException;
import java.lang.reflect.InvocationTargetException;
import java.lang.reflect.Method;
import java.lang.reflect.Modifier;
import java.nio.file.Files;
import java.nio.file.Path;
import java.util.ArrayList;
import java.util.List;
import java.util.regex.Matcher;
import java.util.regex.Pattern;
import java.util.stream.Stream;

/** README.md: each line of its example answers what stands behind it, and the page names every call and every test. */
public final class ReadmeTest {
    private static final Check CHECK = new Check("ReadmeTest");
    private static final Path PAGE = Path.of("README.md");
    private static final Path TESTS = Path.of("src/test/java");
    private static final Pattern TOLD = Pattern.compile("tape\\(x, \"([^\"]*)\"\\);");
    private static final Pattern ASKED = Pattern.compile("x\\.(\\w+)\\(([^)]*)\\); *// (throws )?([-\\w]+): .*");

    public static void main(String[] args) throws Exception {
        String page = Files.readString(PAGE);
        example(page);
        namesEveryCall(page);
        namesEveryTest(page);
        CHECK.finish();
    }

    private static void example(String page) throws Exception {
        int begin = page.indexOf("SaidOnce x = new SaidOnce();");
        CHECK.due("the page has an example", begin >= 0, true);
        String[] lines = page.substring(Math.max(begin, 0), page.indexOf("```", Math.max(begin, 0))).split("\n");
        SaidOnce x = new SaidOnce();
        for (int k = 1; k < lines.length; k++) {
            Matcher told = TOLD.matcher(lines[k]);
            Matcher asked = ASKED.matcher(lines[k]);
            if (told.matches()) {
                Check.tape(x, told.group(1));
            } else if (asked.matches()) {
                CHECK.same(lines[k], answer(x, asked.group(1), asked.group(2)), asked.group(4));
            } else {
                CHECK.same(lines[k], "a line that cannot be read", "a tape or a call with its answer");
            }
        }
    }

    private static String answer(SaidOnce x, String call, String told) throws Exception {
        for (Method one : SaidOnce.class.getDeclaredMethods()) {
            if (one.getName().equals(call)) {
                try {
                    return String.valueOf(one.invoke(x, numbers(told)));
                } catch (InvocationTargetException e) {
                    return e.getCause().getClass().getSimpleName();
                }
            }
        }
        return "no such call";
    }

    private static Object[] numbers(String told) {
        List<Object> all = new ArrayList<>();
        for (String one : told.isEmpty() ? new String[0] : told.split(", ")) {
            if (one.equals("true") || one.equals("false")) {
                all.add(one.equals("true"));
            } else {
                all.add(Integer.parseInt(one));
            }
        }
        return all.toArray();
    }

    private static void namesEveryCall(String page) {
        String calls = page.substring(page.indexOf("## The calls"), page.indexOf("## How to run the tests"));
        for (Method one : SaidOnce.class.getDeclaredMethods()) {
            if (Modifier.isPublic(one.getModifiers())) {
                CHECK.due("the page names " + one.getName(), calls.contains("`" + one.getName() + "`"), true);
            }
        }
    }

    private static void namesEveryTest(String page) throws IOException {
        String tests = page.substring(page.indexOf("## How to run the tests"));
        try (Stream<Path> files = Files.list(TESTS)) {
            for (Path one : files.sorted().toList()) {
                String name = one.getFileName().toString().replace(".java", "");
                if (name.endsWith("Test")) {
                    CHECK.due("the page names " + name, tests.contains("`" + name + "`"), true);
                }
            }
        }
    }
}
