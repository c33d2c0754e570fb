import java.io.IOException;
import java.lang.reflect.Method;
import java.nio.file.Files;
import java.nio.file.Path;
import java.util.regex.Matcher;
import java.util.regex.Pattern;

/** That the calls in README.md answer what stands behind them. */
final class ReadmeTests {
    private static final Pattern CALL = Pattern.compile("x\\.(\\w+)\\((.*?)\\); +// (-?\\d+):.*");
    private static final int MANY = 20;

    private ReadmeTests() {
    }

    static void run(String readme) throws IOException, ReflectiveOperationException {
        Hands x = new Hands();
        int asked = 0;
        for (String line : Files.readAllLines(Path.of(readme))) {
            Matcher call = CALL.matcher(line);
            if (call.matches()) {
                asked++;
                Due.is("README.md: " + line, Integer.parseInt(call.group(3)), answer(x, call.group(1), call.group(2)));
            } else {
                Due.holds("README.md tells the answer of " + line, !line.startsWith("x."));
            }
        }
        Due.holds("README.md has calls", asked >= MANY);
    }

    private static int answer(Hands x, String name, String given) throws ReflectiveOperationException {
        String[] words = given.isEmpty() ? new String[0] : given.split(", ");
        for (Method method : Hands.class.getDeclaredMethods()) {
            if (method.getName().equals(name) && method.getParameterCount() == words.length) {
                Object[] arguments = new Object[words.length];
                for (int i = 0; i < words.length; i++) {
                    arguments[i] = value(words[i], method.getParameterTypes()[i]);
                }
                return (int) method.invoke(x, arguments);
            }
        }
        Due.holds("there is a call " + name, false);
        return 0;
    }

    private static Object value(String word, Class<?> of) {
        if (of == boolean.class) {
            return word.equals("true");
        }
        if (of == long.class) {
            return Long.parseUnsignedLong(word.substring(2, word.length() - 1), 16);
        }
        return word.startsWith("0b") ? Integer.parseInt(word.substring(2), 2) : Integer.parseInt(word);
    }
}
