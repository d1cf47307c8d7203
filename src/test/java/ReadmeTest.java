import java.lang.reflect.Method;
import java.lang.reflect.Modifier;
import java.nio.charset.StandardCharsets;
import java.nio.file.Files;
import java.nio.file.Path;
import java.util.regex.Matcher;
import java.util.regex.Pattern;

/** README.md: its example answers as it says, and it names each call with as many numbers as the call takes. */
public final class ReadmeTest {
    private static final Check check = new Check("ReadmeTest");
    private static final Pattern ASKED = Pattern.compile("x\\.(\\w+)\\(([^)]*)\\);\\s+// (-?\\d+).*");

    public static void main(String[] args) throws Exception {
        String readme = Files.readString(Path.of("README.md"), StandardCharsets.UTF_8);
        example(readme);
        eachCall(readme);
        check.end();
    }

    private static void example(String readme) throws ReflectiveOperationException {
        check.sentence("the example");
        int from = readme.indexOf("```java");
        int to = readme.indexOf("```", from + 3);
        check.holds("there is one", from >= 0 && to > from);
        String code = readme.substring(Math.max(from, 0), Math.max(to, 0));
        Matcher text = Pattern.compile("\"([^\"]+)\"").matcher(code);
        check.holds("it tells a text", text.find());
        OffFirst x = Check.written(text.group(1));
        int asked = 0;
        for (String line : code.split("\n")) {
            Matcher call = ASKED.matcher(line);
            if (call.matches()) {
                check.due(line, ask(x, call.group(1), call.group(2)), Integer.parseInt(call.group(3)));
                asked++;
            }
        }
        check.holds("it asks more than lay", asked > 1);
    }

    private static int ask(OffFirst x, String name, String told) throws ReflectiveOperationException {
        String[] figures = told.isEmpty() ? new String[0] : told.split(", ");
        Class<?>[] types = new Class<?>[figures.length];
        Object[] numbers = new Object[figures.length];
        for (int i = 0; i < figures.length; i++) {
            types[i] = int.class;
            numbers[i] = Integer.valueOf(figures[i]);
        }
        return (int) OffFirst.class.getMethod(name, types).invoke(x, numbers);
    }

    private static void eachCall(String readme) {
        check.sentence("the calls");
        String table = readme.substring(Math.max(readme.indexOf("### The calls"), 0));
        for (Method method : OffFirst.class.getDeclaredMethods()) {
            if (Modifier.isPublic(method.getModifiers())) {
                Matcher named = Pattern.compile("`" + method.getName() + "\\(([^)]*)\\)`").matcher(table);
                boolean isNamed = named.find();
                check.holds(method.getName() + " is in the table", isNamed);
                if (isNamed) {
                    int numbers = named.group(1).isEmpty() ? 0 : named.group(1).split(", ").length;
                    check.due(method.getName() + " takes", numbers, method.getParameterCount());
                }
            }
        }
    }
}
