import java.lang.reflect.Method;
import java.lang.reflect.Modifier;
import java.nio.file.Files;
import java.nio.file.Path;
import java.util.regex.Matcher;
import java.util.regex.Pattern;

/** What README.md shows of the class's use is so: each call there answers what stands behind it. */
public final class ReadmeTest {
    private static final Check CHECK = new Check();
    private static final Pattern CALL = Pattern.compile("(?m)^x\\.(\\w+)\\(([-0-9, ]*)\\); +// (-?\\d+|true|false)\\b");
    private static final Pattern FED = Pattern.compile("(?s)^feed\\(x, (.*?)\\);\n", Pattern.MULTILINE);

    public static void main(String[] args) throws Exception {
        String readme = Files.readString(Path.of("README.md"));
        Matcher fed = FED.matcher(readme);
        CHECK.due("a text is fed", fed.find(), true);
        RatSorters x = new RatSorters();
        Check.feed(x, fed.group(1).replaceAll("\"\\s*\\+\\s*\"|\"", ""));
        Matcher call = CALL.matcher(readme);
        int calls = 0;
        while (call.find()) {
            calls++;
            Object answer = answer(x, call.group(1), call.group(2));
            CHECK.due(call.group() + " is answered by " + answer, answer.toString().equals(call.group(3)), true);
        }
        CHECK.due("calls were seen", calls, 9);
        named(readme);
        CHECK.end("readme");
    }

    private static Object answer(RatSorters x, String name, String given) throws Exception {
        String[] numbers = given.isEmpty() ? new String[0] : given.split(", ");
        Object[] arguments = new Object[numbers.length];
        Class<?>[] types = new Class<?>[numbers.length];
        for (int i = 0; i < numbers.length; i++) {
            arguments[i] = Integer.valueOf(numbers[i]);
            types[i] = int.class;
        }
        return RatSorters.class.getMethod(name, types).invoke(x, arguments);
    }

    private static void named(String readme) {
        String table = readme.substring(readme.indexOf("| what for |"), readme.indexOf("## How it is built"));
        for (Method m : RatSorters.class.getDeclaredMethods()) {
            if (Modifier.isPublic(m.getModifiers())) {
                CHECK.due("the table has " + m.getName(), table.contains("`" + m.getName() + "`"), true);
            }
        }
    }
}
