import java.io.IOException;
import java.lang.reflect.Method;
import java.lang.reflect.Modifier;
import java.nio.file.Files;
import java.nio.file.Path;
import java.util.Arrays;
import java.util.regex.Matcher;
import java.util.regex.Pattern;

/** README.md: its examples answer what they say, and its table has every call. */
public final class ReadmeTest {
    private static final Check check = new Check("ReadmeTest");
    private static final Pattern EXAMPLE = Pattern.compile("(?s)```java\n(.*?)```");
    private static final Pattern CALL = Pattern.compile("x\\.(\\w+)\\(([-0-9, ]*)\\); *(?://(.*))?");
    private static final Pattern ANSWER = Pattern.compile("answers (-?[0-9]+|BAD|NONE|FULL)\\b");

    public static void main(String[] args) throws IOException, ReflectiveOperationException {
        String text = Files.readString(Path.of("README.md"));
        int examples = 0;
        for (Matcher example = EXAMPLE.matcher(text); example.find(); ) {
            carryOut(example.group(1));
            examples++;
        }
        check.due("examples", examples, 2);
        everyCallIsThere(text);
        check.end();
    }

    private static void carryOut(String example) throws ReflectiveOperationException {
        CycleController x = null;
        int told = 0;
        for (String line : example.split("\n")) {
            Matcher call = CALL.matcher(line);
            if (line.equals("CycleController x = new CycleController();")) {
                x = new CycleController();
            } else if (call.matches()) {
                told += answers(line, call(x, call.group(1), call.group(2)), call.group(3));
            } else {
                check.due("a line that is not a call, " + line, 1, 0);
            }
        }
        check.due("whether an answer is told", told > 0 ? 1 : 0, 1);
    }

    private static int call(CycleController x, String name, String arguments) throws ReflectiveOperationException {
        Object[] values = arguments.isEmpty() ? new Object[0]
            : Arrays.stream(arguments.split(", *")).map(Integer::valueOf).toArray();
        Class<?>[] types = new Class<?>[values.length];
        Arrays.fill(types, int.class);
        return (Integer) CycleController.class.getMethod(name, types).invoke(x, values);
    }

    /** A call of which no answer is told must be one that is not refused. */
    private static int answers(String line, int got, String comment) throws ReflectiveOperationException {
        Matcher answer = ANSWER.matcher(comment == null ? "" : comment);
        if (!answer.find()) {
            check.due(line + " refused", got < 0 ? 1 : 0, 0);
            return 0;
        }
        String word = answer.group(1);
        boolean named = Character.isLetter(word.charAt(0));
        check.due(line, got, named ? CycleController.class.getField(word).getInt(null) : Integer.parseInt(word));
        return 1;
    }

    private static void everyCallIsThere(String text) {
        for (Method method : CycleController.class.getDeclaredMethods()) {
            if (Modifier.isPublic(method.getModifiers())) {
                check.due("a row for " + method.getName(), text.contains("\n| `" + method.getName() + "(") ? 1 : 0, 1);
            }
        }
    }
}
