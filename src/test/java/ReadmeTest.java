import java.io.IOException;
import java.lang.reflect.Method;
import java.nio.file.Files;
import java.nio.file.Path;
import java.util.Set;
import java.util.TreeSet;
import java.util.regex.Matcher;
import java.util.regex.Pattern;

/** README.md's examples answer what is written behind their calls, and its tables leave no call and no test out. */
public final class ReadmeTest {
    private static final Pattern MADE = Pattern.compile("FlashTrust x = new FlashTrust\\((-?\\d+)\\);.*");
    private static final Pattern CALL = Pattern.compile("x\\.(\\w+)\\(([^)]*)\\); +// (-?[\\d,]+|[A-Z]+)(: .*)?");

    private static FlashTrust x;
    private static int calls;

    public static void main(String[] args) throws IOException, ReflectiveOperationException {
        String readme = Files.readString(Path.of("README.md"));
        Matcher example = Pattern.compile("(?s)```java\n(.*?)```").matcher(readme);
        Set<String> shown = new TreeSet<>();
        while (example.find()) {
            run(example.group(1), shown);
        }
        for (Method method : FlashTrust.class.getMethods()) {
            if (method.getDeclaringClass() == FlashTrust.class) {
                Due.holds(method.getName() + " is in an example", shown.contains(method.getName()));
                Due.holds(method.getName() + " is told of", readme.contains("\n| `" + method.getName() + "("));
            }
        }
        namesEveryTest(readme);
        Due.close("ReadmeTest");
    }

    private static void run(String example, Set<String> shown) throws ReflectiveOperationException {
        x = null;
        for (String line : example.split("\n")) {
            Matcher made = MADE.matcher(line);
            Matcher call = CALL.matcher(line);
            if (made.matches()) {
                x = new FlashTrust(Integer.parseInt(made.group(1)));
                calls = 0;
            } else if (call.matches()) {
                shown.add(call.group(1));
                calls++;
                Due.is("README.md, " + line, answer(call.group(1), call.group(2)), number(call.group(3)));
            } else {
                Due.holds("README.md, a line that is neither empty nor a call with its answer: " + line, line.isEmpty());
            }
        }
        Due.holds("an object is used for at most 512 calls", calls > 0 && calls <= 512);
    }

    private static long answer(String name, String given) throws ReflectiveOperationException {
        String[] words = given.isEmpty() ? new String[0] : given.split(", ");
        for (Method method : FlashTrust.class.getMethods()) {
            if (method.getName().equals(name) && method.getParameterCount() == words.length) {
                Object[] values = new Object[words.length];
                for (int i = 0; i < words.length; i++) {
                    boolean isNumber = method.getParameterTypes()[i] == int.class;
                    values[i] = isNumber ? (Object) Integer.decode(words[i]) : (Object) Boolean.valueOf(words[i]);
                }
                return ((Number) method.invoke(x, values)).longValue();
            }
        }
        throw new NoSuchMethodException(name);
    }

    private static long number(String word) throws ReflectiveOperationException {
        boolean isName = Character.isLetter(word.charAt(0));
        return isName ? FlashTrust.class.getField(word).getInt(null) : Long.parseLong(word.replace(",", ""));
    }

    private static void namesEveryTest(String readme) throws IOException {
        try (var files = Files.newDirectoryStream(Path.of("src/test/java"), "*.java")) {
            for (Path file : files) {
                String name = file.getFileName().toString().replace(".java", "");
                Due.holds(name + " is in README.md", readme.contains("`" + name + "`"));
            }
        }
    }
}
