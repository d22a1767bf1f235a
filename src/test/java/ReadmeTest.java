import java.io.IOException;
import java.lang.reflect.InvocationTargetException;
import java.lang.reflect.Method;
import java.nio.file.Files;
import java.nio.file.Path;
import java.util.List;
import java.util.regex.Matcher;
import java.util.regex.Pattern;

/** The examples of README.md, line by line: each call answers what the comment behind it says. */
public final class ReadmeTest {
    private static final Path README = Path.of("README.md");
    private static final String MAKES = "FirmStore store = new FirmStore();";
    private static final Pattern CALL = Pattern.compile("store\\.(\\w+)\\((.*)\\); +// (-?\\w+)(: .+)?");

    private static FirmStore store;
    private static int calls = 0;

    public static void main(String[] args) throws IOException {
        List<String> lines = Files.readAllLines(README);
        boolean isJava = false;
        for (String line : lines) {
            if (line.startsWith("```")) {
                isJava = line.equals("```java");
            } else if (isJava) {
                follow(line);
            }
        }
        Check.isTrue("there are examples", calls > 0);
        namesEachCall(String.join("\n", lines));
        Check.end();
    }

    private static void follow(String line) {
        Matcher call = CALL.matcher(line);
        if (line.equals(MAKES)) {
            store = new FirmStore();
        } else if (call.matches()) {
            String got = answer(call.group(1), numbers(call.group(2)));
            Check.same(call.group(1) + "(" + call.group(2) + ")", got, call.group(3));
            calls++;
        } else {
            Check.fail("not understood: " + line);
        }
    }

    private static Object[] numbers(String list) {
        String[] texts = list.isEmpty() ? new String[0] : list.split(", ");
        Object[] numbers = new Object[texts.length];
        for (int i = 0; i < texts.length; i++) {
            boolean isBinary = texts[i].startsWith("0b");
            numbers[i] = isBinary ? Integer.parseInt(texts[i].substring(2), 2) : Integer.parseInt(texts[i]);
        }
        return numbers;
    }

    private static String answer(String name, Object[] arguments) {
        try {
            Object got = methodOf(name).invoke(store, arguments);
            boolean isWriting = name.equals("put") || name.equals("remove") || name.equals("recover");
            return isWriting ? nameOf((int) got) : got.toString();
        } catch (InvocationTargetException e) {
            return e.getCause().getClass().getSimpleName();
        } catch (ReflectiveOperationException | IllegalArgumentException e) {
            return "no call";
        }
    }

    private static String nameOf(int got) {
        return got == FirmStore.CUT ? "CUT" : got == FirmStore.FULL ? "FULL" : Integer.toString(got);
    }

    private static Method methodOf(String name) throws NoSuchMethodException {
        for (Method m : FirmStore.class.getDeclaredMethods()) {
            if (m.getName().equals(name)) {
                return m;
            }
        }
        throw new NoSuchMethodException(name);
    }

    private static void namesEachCall(String text) {
        for (Method m : FirmStore.class.getMethods()) {
            if (m.getDeclaringClass() == FirmStore.class) {
                Check.isTrue("a row for " + m.getName(), text.contains("| `" + m.getName() + "("));
            }
        }
    }
}
