import java.io.IOException;
import java.lang.reflect.Method;
import java.lang.reflect.Modifier;
import java.nio.file.Files;
import java.nio.file.Path;
import java.util.List;
import java.util.regex.Matcher;
import java.util.regex.Pattern;
import java.util.stream.Stream;

/** README.md: its example answers as it says, and it names every call of the face, every constant and every test. */
public final class ReadmeTest {
    private static final Pattern TEXT = Pattern.compile("for \\(char sign : \"(.*)\"\\.toCharArray\\(\\)\\)");
    private static final Pattern EXAMPLE = Pattern.compile("(?m)^x\\.([a-z]+)\\(([0-9, -]*)\\); +// (-?[0-9]+):");
    private static final Pattern NAMED_CALL = Pattern.compile("`([a-z]+)\\(([a-z, ]*)\\)`");

    public static void main(String[] args) throws Exception {
        Path root = Path.of(args[0]).toAbsolutePath().normalize().resolve("../../../..").normalize();
        String page = Files.readString(root.resolve("README.md"));
        example(page);
        calls(page);
        constants(page);
        tests(page, root.resolve("src/test/java"));
        Due.finish("ReadmeTest");
    }

    private static void example(String page) throws Exception {
        Due.about("the example");
        DozeLink x = new DozeLink();
        Matcher text = TEXT.matcher(page);
        Due.holds("it writes a TEXT", text.find());
        for (char sign : text.group(1).toCharArray()) {
            x.write(sign);
        }
        Matcher line = EXAMPLE.matcher(page);
        int lines = 0;
        while (line.find()) {
            lines++;
            Due.is(line.group(1) + "(" + line.group(2) + ")", answer(x, line.group(1), line.group(2)),
                    Long.parseLong(line.group(3)));
        }
        Due.is("lines with a call", lines, page.lines().filter(each -> each.startsWith("x.")).count());
    }

    private static long answer(DozeLink x, String name, String numbers) throws Exception {
        String[] told = numbers.isEmpty() ? new String[0] : numbers.split(", *");
        Object[] given = new Object[told.length];
        Class<?>[] types = new Class<?>[told.length];
        for (int i = 0; i < told.length; i++) {
            given[i] = Integer.parseInt(told[i]);
            types[i] = int.class;
        }
        return ((Number) DozeLink.class.getMethod(name, types).invoke(x, given)).longValue();
    }

    private static void calls(String page) {
        Due.about("the table of calls");
        for (Method method : DozeLink.class.getDeclaredMethods()) {
            if (Modifier.isPublic(method.getModifiers())) {
                Due.is("how often it has " + method.getName(), timesNamed(page, method), 1);
            }
        }
        Matcher named = NAMED_CALL.matcher(page);
        while (named.find()) {
            String name = named.group(1);
            Due.holds(name + " is a call", Stream.of(DozeLink.class.getDeclaredMethods())
                    .anyMatch(each -> each.getName().equals(name) && Modifier.isPublic(each.getModifiers())));
        }
    }

    private static int timesNamed(String page, Method method) {
        Matcher named = NAMED_CALL.matcher(page);
        int times = 0;
        while (named.find()) {
            int parameters = named.group(2).isEmpty() ? 0 : named.group(2).split(",").length;
            if (named.group(1).equals(method.getName()) && parameters == method.getParameterCount()) {
                times++;
            }
        }
        return times;
    }

    private static void constants(String page) throws Exception {
        Due.about("refusals and NONE");
        String line = page.replaceAll("\\s+", " ");
        for (String name : List.of("UNKNOWN", "OUTSIDE", "STATE", "FULL", "NONE")) {
            int value = DozeLink.class.getField(name).getInt(null);
            Due.holds(name + " with its number", line.contains("`" + name + "` " + value)
                    || line.contains("`" + name + "` is " + value));
        }
    }

    private static void tests(String page, Path directory) throws IOException {
        Due.about("the tests");
        try (Stream<Path> files = Files.list(directory)) {
            for (Path file : files.toList()) {
                String name = file.getFileName().toString().replace(".java", "");
                Due.holds(name + " is told", !name.endsWith("Test") || page.contains("- `" + name + "`:"));
            }
        }
        Due.holds("how to run them", page.contains("`.ci/run`"));
    }
}
