import java.io.IOException;
import java.lang.reflect.Method;
import java.util.LinkedHashMap;
import java.util.Map;
import java.util.Set;
import java.util.TreeSet;
import java.util.regex.Matcher;
import java.util.regex.Pattern;

/** Rules 3, 7, 8 and 10 of LANGUAGE.md, as far as they can be seen in the text of the methods. */
public final class MethodsTest {
    private static final Check check = new Check("MethodsTest");
    private static final Pattern METHOD =
        Pattern.compile("(?ms)^    (?:public|private) [a-zA-Z ]*\\b(\\w+)\\([^)]*\\) \\{\n(.*?)^    \\}$");
    private static final Pattern CALL = Pattern.compile("\\b(?!(?:if|for|switch|while)\\b)(\\w+) ?\\(");
    // Stricter than the rule, which lets other loops be too: a counter that goes by one against a bound.
    private static final Pattern LOOP =
        Pattern.compile("for \\(int (\\w+) = [^;]+; (?:\\1 < [^;]+; \\1\\+\\+|\\1 >= [^;]+; \\1--)\\) \\{");

    private final Map<String, String> bodies = new LinkedHashMap<>();

    public static void main(String[] args) throws IOException {
        MethodsTest test = new MethodsTest();
        for (Matcher method = METHOD.matcher(LanguageTest.code()); method.find(); ) {
            test.bodies.put(method.group(1), method.group(2));
        }
        test.everyMethodIsRead();
        test.callsStayInTheClass();
        test.callsStandAlone();
        test.callsGoSixDeep();
        test.methodsAreShort();
        test.loopsHaveABound();
        test.divisorsAreLookedAt();
        check.end();
    }

    private static void holds(String what, boolean holds) {
        check.due(what, holds ? 1 : 0, 1);
    }

    private void everyMethodIsRead() {
        Set<String> names = new TreeSet<>(Set.of("CycleController"));
        for (Method method : CycleController.class.getDeclaredMethods()) {
            names.add(method.getName());
        }
        holds("the methods read, " + bodies.keySet() + ", are those there are", names.equals(bodies.keySet()));
    }

    private Set<String> calls(String text) {
        Set<String> names = new TreeSet<>();
        for (Matcher call = CALL.matcher(text); call.find(); ) {
            names.add(call.group(1));
        }
        names.remove("return");
        return names;
    }

    private void callsStayInTheClass() {
        bodies.forEach((name, body) -> holds(name + " calls " + calls(body), bodies.keySet().containsAll(calls(body))));
    }

    private void callsStandAlone() {
        bodies.forEach((name, body) -> {
            for (Matcher call = CALL.matcher(body); call.find(); ) {
                String arguments = insideBrackets(body, call.end());
                holds(name + ": a call in " + call.group() + arguments + ")", calls(arguments).isEmpty());
            }
        });
    }

    private static String insideBrackets(String text, int from) {
        int open = 1;
        int i = from;
        while (open > 0) {
            open += text.charAt(i) == '(' ? 1 : text.charAt(i) == ')' ? -1 : 0;
            i++;
        }
        return text.substring(from, i - 1);
    }

    /** Methods that call each other in a ring never get a depth. */
    private void callsGoSixDeep() {
        Map<String, Integer> depths = new LinkedHashMap<>();
        for (int round = 0; round < bodies.size(); round++) {
            bodies.forEach((name, body) -> {
                if (depths.keySet().containsAll(calls(body))) {
                    depths.put(name, 1 + calls(body).stream().mapToInt(depths::get).max().orElse(0));
                }
            });
        }
        for (String name : bodies.keySet()) {
            holds(name + " leads to no method that calls itself", depths.containsKey(name));
            holds(name + " goes " + depths.get(name) + " deep", depths.getOrDefault(name, 0) <= 6);
        }
    }

    private void methodsAreShort() {
        bodies.forEach((name, body) -> holds(name + " is short", body.lines().count() <= 60));
    }

    private void loopsHaveABound() throws IOException {
        for (Matcher loop = Pattern.compile("\\b(for|while|do)\\b.*").matcher(LanguageTest.code()); loop.find(); ) {
            holds(loop.group(), LOOP.matcher(loop.group()).matches());
        }
    }

    private void divisorsAreLookedAt() throws IOException {
        for (Matcher line = Pattern.compile(".*[/%] *(\\w+).*").matcher(LanguageTest.code()); line.find(); ) {
            holds(line.group(), line.group().contains(line.group(1) + " == 0 ? 0 :"));
        }
    }
}
