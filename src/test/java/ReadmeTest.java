import java.io.IOException;
import java.lang.reflect.Method;
import java.nio.file.Files;
import java.nio.file.Path;
import java.util.Arrays;
import java.util.regex.Matcher;
import java.util.regex.Pattern;

/** The example of README.md: each call is made, and must answer what is written behind it. */
final class ReadmeTest {
    private static final Pattern TYPED = Pattern.compile("type\\(store, \"(.*)\"\\);");
    private static final Pattern CALLED = Pattern.compile("store\\.(\\w+)\\(([0-9, ]*)\\); *// (-?\\d+).*");
    private static final Check check = new Check();

    public static void main(String[] args) throws IOException, ReflectiveOperationException {
        check.begin("README.md");
        int calls = 0;
        for (String line : Files.readAllLines(Path.of("README.md"))) {
            Matcher typed = TYPED.matcher(line);
            Matcher called = CALLED.matcher(line);
            if (typed.matches()) {
                check.type(typed.group(1));
            } else if (called.matches()) {
                calls++;
                long due = Long.parseLong(called.group(3));
                check.due(called.group(), answer(called.group(1), called.group(2)), due);
            } else {
                check.due(line + " is read", line.startsWith("store."), false);
            }
        }
        check.due("the example has calls", calls > 0, true);
        check.end("ReadmeTest");
    }

    private static long answer(String name, String arguments) throws ReflectiveOperationException {
        Object[] values = Arrays.stream(arguments.split(", *"))
                .filter(argument -> !argument.isEmpty()).map(Integer::valueOf).toArray();
        Class<?>[] types = new Class<?>[values.length];
        Arrays.fill(types, int.class);
        Method method = MarkupStore.class.getMethod(name, types);
        return ((Number) method.invoke(check.store, values)).longValue();
    }
}
