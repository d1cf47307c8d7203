import java.io.IOException;
import java.lang.reflect.Constructor;
import java.lang.reflect.Field;
import java.lang.reflect.Method;
import java.lang.reflect.Modifier;
import java.nio.charset.StandardCharsets;
import java.nio.file.Files;
import java.nio.file.Path;
import java.util.Arrays;
import java.util.List;
import java.util.Set;
import java.util.TreeSet;
import java.util.regex.Matcher;
import java.util.regex.Pattern;

/** The class's face, and what of LANGUAGE.md can be seen in the source. */
public final class LanguageTest {
    private static final Check check = new Check("LanguageTest");
    private static final String[] FACE = {"write int long", "wipe", "fault", "lay", "food int int", "warmth int int",
        "hours int", "move int int", "make int int", "eat int", "throwOut int", "offIn int int", "lost int",
        "plan int int", "freeze int int", "lie int int int", "expect int", "buy", "print int", "smell int", "line",
        "cut int boolean", "ill int int", "span int int", "noSpans", "law int", "habit int int int", "keep", "back",
        "count int"};
    private static final List<String> BARRED = List.of("throw", "throws", "try", "catch", "finally", "synchronized",
            "assert", "import", "package", "native", "volatile", "transient", "protected", "instanceof", "null");
    private static final List<String> LIBRARY = List.of("Math.min", "Math.max", "Integer.bitCount");

    public static void main(String[] args) throws IOException {
        face();
        classesInside();
        String source = Files.readString(Path.of(args.length > 0 ? args[0] : "src/main/java/OffFirst.java"),
                StandardCharsets.ISO_8859_1);
        source(source);
        check.end();
    }

    private static void face() {
        Set<String> want = new TreeSet<>(Arrays.asList(FACE));
        Set<String> got = new TreeSet<>();
        for (Method method : OffFirst.class.getDeclaredMethods()) {
            if (Modifier.isPublic(method.getModifiers())) {
                StringBuilder head = new StringBuilder(method.getName());
                for (Class<?> type : method.getParameterTypes()) {
                    head.append(' ').append(type.getName());
                }
                got.add(head.toString());
                check.holds(method + " answers an int", method.getReturnType() == int.class);
                check.holds(method + " is of an object", !Modifier.isStatic(method.getModifiers()));
            } else {
                check.holds(method + " is private", Modifier.isPrivate(method.getModifiers()));
            }
        }
        check.holds("the methods are those of the face: " + got, got.equals(want));
        Set<String> constants = new TreeSet<>();
        for (Field field : OffFirst.class.getDeclaredFields()) {
            if (Modifier.isPublic(field.getModifiers())) {
                check.holds(field + " is a constant", field.getModifiers()
                        == (Modifier.PUBLIC | Modifier.STATIC | Modifier.FINAL) && field.getType() == int.class);
                constants.add(field.getName());
            } else {
                check.holds(field + " is private", Modifier.isPrivate(field.getModifiers()));
            }
        }
        check.holds("the constants are those of the face",
                constants.equals(new TreeSet<>(List.of("BAD", "NO", "FULL", "NONE"))));
        Constructor<?>[] made = OffFirst.class.getDeclaredConstructors();
        check.holds("one public constructor without parameters", made.length == 1
                && Modifier.isPublic(made[0].getModifiers()) && made[0].getParameterCount() == 0);
        check.holds("the class is public and final",
                OffFirst.class.getModifiers() == (Modifier.PUBLIC | Modifier.FINAL));
    }

    private static void classesInside() {
        Set<String> face = new TreeSet<>();
        for (String head : FACE) {
            face.add(head.split(" ")[0]);
        }
        Class<?>[] inside = OffFirst.class.getDeclaredClasses();
        check.holds("some twelve classes at most", inside.length + 1 <= 12);
        fewFields(OffFirst.class);
        for (Class<?> one : inside) {
            check.holds(one + " is private and static", Modifier.isStatic(one.getModifiers())
                    && Modifier.isPrivate(one.getModifiers()));
            check.holds(one + " has no classes inside", one.getDeclaredClasses().length == 0);
            fewFields(one);
            for (Method method : one.getDeclaredMethods()) {
                check.holds(method + " has a name of its own", !face.contains(method.getName()));
                check.holds(method + " has at most seven parameters", method.getParameterCount() <= 7);
            }
        }
    }

    private static void fewFields(Class<?> one) {
        int fields = 0;
        for (Field field : one.getDeclaredFields()) {
            if (Modifier.isStatic(field.getModifiers())) {
                check.holds(field + " is a final number", Modifier.isFinal(field.getModifiers())
                        && field.getType() == int.class);
            } else {
                fields++;
            }
        }
        check.holds(one + " has some twenty fields at most", fields <= 20);
    }

    private static void source(String source) {
        check.holds("the source is ASCII", source.chars().allMatch(sign -> sign == '\n' || sign >= 32 && sign < 127));
        String code = source.replaceAll("(?s)/\\*.*?\\*/", " ").replaceAll("//[^\n]*", " ");
        for (String word : BARRED) {
            check.holds("there is no " + word, !Pattern.compile("\\b" + word + "\\b").matcher(code).find());
        }
        check.holds("there is no lambda, no method reference", !code.contains("->") && !code.contains("::"));
        check.holds("there is no text", !code.contains("\""));
        Matcher used = Pattern.compile("\\b(?:Math|Integer|Long|System|Arrays|String|StringBuilder)\\b(?:\\.\\w+)?")
                .matcher(code);
        while (used.find()) {
            check.holds(used.group() + " is of the library", LIBRARY.contains(used.group()));
        }
        // Every row is read and set by at and put, which look at the index first.
        Matcher index = Pattern.compile("\\w+\\s*\\[[^\\]]+\\]").matcher(code.replaceAll("new int\\[", "("));
        int indexed = 0;
        while (index.find()) {
            check.holds(index.group() + " stands in at or put", index.group().equals("row[i]"));
            indexed++;
        }
        check.due("rows indexed", indexed, 2);
        methodsAreShort(source);
    }

    private static void methodsAreShort(String source) {
        String[] lines = source.split("\n");
        for (int from = 0; from < lines.length; from++) {
            Matcher head = Pattern.compile("^( {4}| {8})\\S.*\\) \\{$").matcher(lines[from]);
            if (head.matches()) {
                int to = from;
                while (to < lines.length - 1 && !lines[to].equals(head.group(1) + "}")) {
                    to++;
                }
                check.holds(lines[from].trim() + " has at most sixty lines", to - from < 60);
            }
        }
    }
}
