import java.lang.reflect.Method;
import java.lang.reflect.Modifier;
import java.nio.file.Files;
import java.nio.file.Path;
import java.util.regex.Matcher;
import java.util.regex.Pattern;

/** README.md (found from the path of the class, the first argument) names every call, and answers are as it says. */
public final class ReadmeTest {

    private static Method named(String name) {
        for (Method m : FoxGeese.class.getDeclaredMethods()) {
            if (m.getName().equals(name) && Modifier.isPublic(m.getModifiers())) return m;
        }
        throw new IllegalStateException("README.md calls " + name);
    }

    private static long call(FoxGeese x, String name, String numbers) throws ReflectiveOperationException {
        String[] told = numbers.isEmpty() ? new String[0] : numbers.split(", *");
        Object[] given = new Object[told.length];
        for (int k = 0; k < told.length; k++) given[k] = Integer.parseInt(told[k]);
        return ((Number) named(name).invoke(x, given)).longValue();
    }

    private static void example(String page) throws ReflectiveOperationException {
        FoxGeese x = new FoxGeese();
        Matcher row = Pattern.compile("(?m)^x\\.(\\w+)\\(([^)]*)\\); +// (-?\\d+)").matcher(page);
        int rows = 0;
        for (; row.find(); rows++) {
            Due.due(row.group(1) + "(" + row.group(2) + ")", call(x, row.group(1), row.group(2)), Long.parseLong(row.group(3)));
        }
        Due.due("rows of the example", rows, page.lines().filter(line -> line.startsWith("x.")).count());
        Due.holds("there is an example", rows > 20);
    }

    private static void everyCall(String page) {
        for (Method m : FoxGeese.class.getDeclaredMethods()) {
            if (!Modifier.isPublic(m.getModifiers())) continue;
            Matcher named = Pattern.compile("`" + m.getName() + "\\(([^)]*)\\)`").matcher(page);
            boolean found = named.find();
            Due.holds("the page names " + m.getName(), found);
            int given = !found || named.group(1).isEmpty() ? 0 : named.group(1).split(",").length;
            Due.due("what " + m.getName() + " takes", m.getParameterCount(), given);
        }
    }

    private static void text(String page) {
        Matcher told = Pattern.compile("(?s)```text\n(.*?)\n```.*?\\(here (\\d+)\\)").matcher(page);
        Due.holds("there is a text", told.find());
        FoxGeese x = new FoxGeese();
        for (char c : told.group(1).toCharArray()) x.type(c);
        Due.due("items of the text", x.read(), Long.parseLong(told.group(2)));
    }

    private static void everyTest(String page, Path tests) throws Exception {
        try (var files = Files.newDirectoryStream(tests, "*Test.java")) {
            for (Path file : files) {
                String name = file.getFileName().toString().replace(".java", "");
                Due.holds("the page names " + name, page.contains("`" + name + "`"));
            }
        }
    }

    public static void main(String[] args) throws Exception {
        Path root = Path.of(args[0]).toAbsolutePath().getParent().getParent().getParent().getParent();
        String page = Files.readString(root.resolve("README.md"));
        example(page);
        everyCall(page);
        text(page);
        everyTest(page, root.resolve("src/test/java"));
        Due.end();
    }
}
