import java.lang.reflect.Method;
import java.lang.reflect.Modifier;
import java.nio.file.Files;
import java.nio.file.Path;
import java.util.Arrays;
import java.util.List;
import java.util.regex.Matcher;
import java.util.regex.Pattern;

/** README.md: its example answers what it says, and each public method stands in a table. */
public final class ReadmeTest {
    private static final String START = "LogStore store = new LogStore();";
    private static final Pattern CALL = Pattern.compile("store\\.(\\w+)\\(([^)]*)\\);\\s+// (-?\\w+).*");

    private static int wrong = 0;

    public static void main(String[] args) throws Exception {
        List<String> lines = Files.readAllLines(Path.of("README.md"));
        example(lines);
        tables(lines);
        System.out.println(wrong == 0 ? "README.md tells it as it is" : wrong + " places in README.md are wrong");
        if (wrong != 0) {
            System.exit(1);
        }
    }

    private static void tell(String what) {
        wrong++;
        System.out.println("README.md: " + what);
    }

    private static void example(List<String> lines) throws Exception {
        int at = lines.indexOf(START);
        if (at < 0) {
            tell("no example");
            return;
        }
        LogStore store = new LogStore();
        for (String line : lines.subList(at + 1, lines.size())) {
            if (line.equals("```")) {
                return;
            }
            call(store, line);
        }
    }

    private static void call(LogStore store, String line) throws Exception {
        Matcher parts = CALL.matcher(line);
        if (!parts.matches()) {
            tell("not a call with its answer: " + line);
            return;
        }
        Object[] arguments = numbers(parts.group(2));
        Class<?>[] types = new Class<?>[arguments.length];
        Arrays.fill(types, int.class);
        Method method = LogStore.class.getMethod(parts.group(1), types);
        Object answer = method.invoke(store, arguments);
        if (method.getReturnType() != void.class && !answer.toString().equals(answerOf(parts.group(3)))) {
            tell("answered " + answer + ": " + line);
        }
    }

    private static Object[] numbers(String arguments) {
        if (arguments.isEmpty()) {
            return new Object[0];
        }
        String[] texts = arguments.split(", ");
        Object[] found = new Object[texts.length];
        for (int i = 0; i < texts.length; i++) {
            found[i] = Integer.valueOf(texts[i]);
        }
        return found;
    }

    private static String answerOf(String told) throws Exception {
        boolean isConstant = told.equals("NONE") || told.equals("OK") || told.equals("BUSY");
        return isConstant ? LogStore.class.getField(told).get(null).toString() : told;
    }

    private static void tables(List<String> lines) {
        for (Method method : LogStore.class.getDeclaredMethods()) {
            String start = "| `" + method.getName() + "(";
            boolean isPublic = Modifier.isPublic(method.getModifiers());
            if (isPublic && lines.stream().noneMatch(line -> line.startsWith(start))) {
                tell(method.getName() + " stands in no table");
            }
        }
    }
}
