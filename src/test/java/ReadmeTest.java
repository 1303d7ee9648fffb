import java.lang.reflect.Method;
import java.nio.file.Files;
import java.nio.file.Path;
import java.util.regex.Matcher;
import java.util.regex.Pattern;

/** The examples of README.md: each line "box.call(arguments);  // answer" is carried out. */
public final class ReadmeTest {
    private static final Pattern CALL = Pattern.compile("box\\.(\\w+)\\((.*)\\); +// (-?\\d+)(:.*)?");

    private static final Due due = new Due();

    public static void main(String[] args) throws Exception {
        boolean inExample = false;
        DieLineChecker box = null;
        for (String line : Files.readAllLines(Path.of("README.md"))) {
            if (line.startsWith("```")) {
                inExample = line.equals("```java");
            } else if (inExample && line.equals("DieLineChecker box = new DieLineChecker();")) {
                box = new DieLineChecker();
            } else if (inExample) {
                carryOut(box, line);
            }
        }
        due.end();
    }

    private static void carryOut(DieLineChecker box, String line) throws Exception {
        Matcher call = CALL.matcher(line);
        if (box == null || !call.matches()) {
            due.is("a call with its answer: " + line, 0, 1);
            return;
        }
        Number answer = (Number) methodNamed(call.group(1)).invoke(box, values(call.group(2)));
        due.is(line, answer.longValue(), Long.parseLong(call.group(3)));
    }

    private static Method methodNamed(String name) {
        for (Method method : DieLineChecker.class.getDeclaredMethods()) {
            if (method.getName().equals(name)) {
                return method;
            }
        }
        throw new IllegalArgumentException("there is no " + name);
    }

    private static Object[] values(String arguments) {
        if (arguments.isEmpty()) {
            return new Object[0];
        }
        String[] words = arguments.split(", ");
        Object[] values = new Object[words.length];
        for (int i = 0; i < words.length; i++) {
            values[i] = value(words[i]);
        }
        return values;
    }

    private static Object value(String word) {
        if (word.equals("true") || word.equals("false")) {
            return Boolean.valueOf(word);
        }
        return word.startsWith("'") ? (int) word.charAt(1) : Integer.parseInt(word);
    }
}
