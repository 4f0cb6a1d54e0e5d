import java.io.IOException;
import java.lang.reflect.Constructor;
import java.lang.reflect.Field;
import java.lang.reflect.Method;
import java.lang.reflect.Modifier;
import java.nio.file.Files;
import java.nio.file.Path;
import java.util.Arrays;
import java.util.Set;
import java.util.TreeSet;
import java.util.regex.Matcher;
import java.util.regex.Pattern;
import java.util.stream.Collectors;

/** The public face of the document, and those rules of LANGUAGE.md that can be seen from outside or word by word. */
public final class LanguageTest {
    private static final Check check = new Check("LanguageTest");
    private static final Path SOURCE = Path.of("src/main/java/CycleController.java");

    private static final String[] FACE = {
        "int feed(int,int)", "int back(int)", "int erase(int)", "int complete(int)", "int activate(int)", "int halt()",
        "int input(int,int)", "int cycle(int)", "void restart()", "int variable(int)", "int poke(int,int)",
        "int cell(int)", "int output(int)", "int block(int,int)", "int digest()" };

    private static final String[] RULED_OUT = {
        "float", "double", "String", "Object", "Math", "Integer", "System", "Arrays", "import", "package", "null",
        "throw", "throws", "try", "catch", "finally", "synchronized", "assert", "instanceof", "interface", "enum",
        "record", "var", "this", "super", "volatile", "transient", "native", "protected" };

    public static void main(String[] args) throws IOException {
        publicFace();
        fields();
        wordsRuledOut();
        arraysAreMadeInFields();
        check.end();
    }

    private static void same(String what, Set<String> got, Set<String> want) {
        check.due(what + ": " + got + " for " + want, got.equals(want) ? 1 : 0, 1);
    }

    private static String face(Method method) {
        String parameters = Arrays.stream(method.getParameterTypes()).map(Class::getName).collect(Collectors.joining(","));
        return method.getReturnType().getName() + " " + method.getName() + "(" + parameters + ")";
    }

    private static void publicFace() {
        Set<String> shown = new TreeSet<>();
        Set<String> names = new TreeSet<>();
        Set<String> hidden = new TreeSet<>();
        for (Method method : CycleController.class.getDeclaredMethods()) {
            if (Modifier.isPrivate(method.getModifiers())) {
                hidden.add(method.getName());
            } else {
                shown.add(face(method));
                names.add(method.getName());
                check.due(method + " is public", Modifier.isPublic(method.getModifiers()) ? 1 : 0, 1);
            }
            check.due(method + ": parameters", method.getParameterCount() <= 7 ? 1 : 0, 1);
        }
        same("methods", shown, new TreeSet<>(Arrays.asList(FACE)));
        hidden.retainAll(names);
        same("private methods with a public one's name", hidden, new TreeSet<>());
        Constructor<?>[] constructors = CycleController.class.getDeclaredConstructors();
        check.due("constructors", constructors.length, 1);
        check.due("constructor is public", Modifier.isPublic(constructors[0].getModifiers()) ? 1 : 0, 1);
        check.due("constructor's parameters", constructors[0].getParameterCount(), 0);
        int modifiers = CycleController.class.getModifiers();
        check.due("public and final", Modifier.isPublic(modifiers) && Modifier.isFinal(modifiers) ? 1 : 0, 1);
        check.due("nested classes", CycleController.class.getDeclaredClasses().length, 0);
    }

    private static void fields() {
        Set<String> constants = new TreeSet<>();
        int own = 0;
        for (Field field : CycleController.class.getDeclaredFields()) {
            int modifiers = field.getModifiers();
            if (!Modifier.isPrivate(modifiers)) {
                constants.add(Modifier.toString(modifiers) + " " + field.getType() + " " + field.getName());
            }
            if (Modifier.isStatic(modifiers)) {
                boolean number = field.getType() == int.class || field.getType() == long.class;
                check.due(field + " is a constant", Modifier.isFinal(modifiers) && number ? 1 : 0, 1);
            } else {
                own++;
                Class<?> type = field.getType().isArray() ? field.getType().getComponentType() : field.getType();
                check.due(field + " is of a number type", type.isPrimitive() ? 1 : 0, 1);
            }
        }
        same("constants", constants, new TreeSet<>(Arrays.asList("public static final int BAD",
            "public static final int NONE", "public static final int FULL")));
        check.due("at most forty fields", own <= 40 ? 1 : 0, 1);
    }

    static String code() throws IOException {
        return Files.readString(SOURCE).replaceAll("//[^\n]*", "").replaceAll("(?s)/\\*.*?\\*/", "");
    }

    private static void wordsRuledOut() throws IOException {
        Set<String> words = new TreeSet<>(Arrays.asList(code().split("[^A-Za-z0-9_]+")));
        for (String word : RULED_OUT) {
            check.due("the word " + word, words.contains(word) ? 1 : 0, 0);
        }
        check.due("lambdas and method references", code().contains("->") || code().contains("::") ? 1 : 0, 0);
    }

    private static void arraysAreMadeInFields() throws IOException {
        Matcher made = Pattern.compile("(?m)^.*\\bnew\\b.*$").matcher(code());
        while (made.find()) {
            String line = made.group().trim();
            boolean field = line.matches("private final (int|boolean)\\[\\] \\w+ = new (int|boolean)\\[[A-Z_0-9]+\\];");
            check.due(line, field ? 1 : 0, 1);
        }
    }
}
