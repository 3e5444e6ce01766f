import java.io.IOException;
import java.lang.reflect.InvocationTargetException;
import java.lang.reflect.Method;
import java.lang.reflect.Modifier;
import java.nio.charset.StandardCharsets;
import java.nio.file.Files;
import java.nio.file.Path;
import java.util.List;
import java.util.regex.Matcher;
import java.util.regex.Pattern;
import java.util.stream.Stream;

/** README.md against the class and the tests: a page that tells what is no more so, misleads whoever begins with it. */
public final class ReadmeTest {
    private static final Pattern CALL = Pattern.compile("(?m)^press\\.(\\w+\\(.*\\));\\s+// (\\w+),");
    private static final Pattern ORDER = Pattern.compile("(?m)^\\| `([^`]+)` \\| `(\\w+\\([^`]*\\))` \\|$");

    public static void main(String[] args) throws IOException {
        String page = Files.readString(Path.of("README.md"), StandardCharsets.UTF_8);
        answers(page);
        orders(page);
        calls(page);
        tests(page);
        Check.finish();
    }

    private static void answers(String page) {
        ErrataPress press = new ErrataPress();
        Matcher call = CALL.matcher(page);
        int count = 0;
        while (call.find()) {
            count++;
            Check.due("press." + call.group(1), answer(press, call.group(1)), call.group(2));
        }
        Check.due("all calls of the example were read", count, page.lines().filter(line -> line.startsWith("press.")).count());
        Check.due("there are some", count > 10, true);
    }

    /** Each order does what its call does, behind all the orders above it. */
    private static void orders(String page) {
        ErrataPress spoken = new ErrataPress();
        ErrataPress called = new ErrataPress();
        StringBuilder kinds = new StringBuilder();
        Matcher order = ORDER.matcher(page);
        while (order.find()) {
            kinds.append(order.group(1).charAt(0));
            String ahead = Check.picture(called);
            Check.due("the order " + order.group(1), Check.runText(spoken, order.group(1)), 1);
            Check.due("no exception in " + order.group(2), answer(called, order.group(2)).matches("\\d+"), true);
            Check.due("what is there behind " + order.group(1), Check.picture(spoken), Check.picture(called));
            Check.due("a change by " + order.group(2), Check.picture(called).equals(ahead), false);
        }
        Check.due("all orders", kinds.toString(), "hsrmlecdx");
    }

    private static void calls(String page) {
        for (Method method : ErrataPress.class.getDeclaredMethods()) {
            if (Modifier.isPublic(method.getModifiers())) {
                Check.due("the page names " + method.getName(), page.contains("`" + method.getName() + "`"), true);
            }
        }
    }

    private static void tests(String page) throws IOException {
        try (Stream<Path> files = Files.list(Path.of("src/test/java"))) {
            for (Path file : files.sorted().toList()) {
                String name = file.getFileName().toString().replace(".java", "");
                Check.due("the page names " + name, page.contains("`" + name + "`"), true);
            }
        }
    }

    /** What a call answers, or the simple name of what it throws. */
    private static String answer(ErrataPress press, String call) {
        String name = call.substring(0, call.indexOf('('));
        String inside = call.substring(call.indexOf('(') + 1, call.length() - 1);
        List<String> texts = inside.isEmpty() ? List.of() : List.of(inside.split(", "));
        Object[] values = texts.stream().map(ReadmeTest::value).toArray();
        for (Method method : ErrataPress.class.getMethods()) {
            if (method.getName().equals(name)) {
                return invoke(press, method, values);
            }
        }
        return "no such call";
    }

    private static String invoke(ErrataPress press, Method method, Object[] values) {
        try {
            return String.valueOf(method.invoke(press, values));
        } catch (InvocationTargetException e) {
            return e.getCause().getClass().getSimpleName();
        } catch (ReflectiveOperationException e) {
            return e.toString();
        }
    }

    private static Object value(String text) {
        if (text.startsWith("'")) {
            return text.charAt(1);
        }
        if (text.equals("true") || text.equals("false")) {
            return text.equals("true");
        }
        return Integer.valueOf(text);
    }
}
