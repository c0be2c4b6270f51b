import java.lang.reflect.Method;
import java.lang.reflect.Modifier;
import java.nio.file.Files;
import java.nio.file.Path;
import java.util.regex.Matcher;
import java.util.regex.Pattern;
import java.util.stream.Stream;

/** README.md: its examples answer as it says, its way of feeding is the one that the tests go, and it names every call, class and test. */
public final class ReadmeTest {
    private static final Pattern CALL = Pattern.compile("x\\.(\\w+)\\(([^)]*)\\);\\s*// (-?\\d+|NONE|true|false)\\b.*");

    private static String block(String page, String kind, int which) {
        int at = 0;
        for (int i = 0; i <= which; i++) {
            at = page.indexOf("```" + kind + "\n", at) + kind.length() + 4;
        }
        return page.substring(at, page.indexOf("```", at));
    }

    private static Object number(String word, Class<?> type) {
        if (type == boolean.class) {
            return word.equals("true");
        }
        return word.equals("NONE") ? BoulderDowry.NONE : Integer.parseInt(word);
    }

    private static void call(BoulderDowry x, String line) throws Exception {
        Matcher told = CALL.matcher(line);
        Check.due("a call and its answer: " + line, told.matches(), true);
        String[] words = told.group(2).isEmpty() ? new String[0] : told.group(2).split(", ");
        for (Method method : BoulderDowry.class.getMethods()) {
            if (method.getName().equals(told.group(1)) && method.getParameterCount() == words.length) {
                Object[] with = new Object[words.length];
                for (int i = 0; i < words.length; i++) {
                    with[i] = number(words[i], method.getParameterTypes()[i]);
                }
                Object want = number(told.group(3), method.getReturnType());
                Object got = method.invoke(x, with);
                Check.due(line + " (it was " + got + ")", got.equals(want), true);
                return;
            }
        }
        Check.due("there is such a call: " + line, false, true);
    }

    private static void examples(String page) throws Exception {
        BoulderDowry x = new BoulderDowry();
        Check.feed(x, Check.bytes(block(page, "text", 0)));
        String[] lines = block(page, "java", 1).split("\n");
        Check.due("some calls", lines.length > 10, true);
        for (String line : lines) {
            call(x, line);
        }
    }

    private static void feeding(String page) throws Exception {
        String check = Files.readString(Path.of("src/test/java/Check.java"));
        Check.due("the tests feed so too", check.contains(block(page, "java", 0)), true);
    }

    private static void names(String page) {
        for (Method method : BoulderDowry.class.getDeclaredMethods()) {
            if (Modifier.isPublic(method.getModifiers())) {
                Matcher row = Pattern.compile("`" + method.getName() + "\\(([^)]*)\\)`").matcher(page);
                Check.due("it names " + method.getName(), row.find(), true);
                int parameters = row.group(1).isEmpty() ? 0 : row.group(1).split(", ").length;
                Check.due("parameters of " + method.getName(), parameters, method.getParameterCount());
            }
        }
    }

    private static void parts(String page) throws Exception {
        for (Class<?> inside : BoulderDowry.class.getDeclaredClasses()) {
            Check.due("it names " + inside, page.contains("`" + inside.getSimpleName() + "`"), true);
        }
        try (Stream<Path> tests = Files.list(Path.of("src/test/java"))) {
            for (String name : tests.map(test -> test.getFileName().toString()).filter(name -> name.endsWith("Test.java")).toList()) {
                Check.due("it names " + name, page.contains("`" + name.replace(".java", "") + "`: "), true);
            }
        }
    }

    public static void main(String[] args) throws Exception {
        String page = Files.readString(Path.of("README.md"));
        examples(page);
        feeding(page);
        names(page);
        parts(page);
        Check.finish("ReadmeTest");
    }
}
