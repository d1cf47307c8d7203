import java.io.IOException;
import java.lang.reflect.Constructor;
import java.lang.reflect.Field;
import java.lang.reflect.Method;
import java.lang.reflect.Modifier;
import java.nio.charset.StandardCharsets;
import java.nio.file.Files;
import java.nio.file.Path;
import java.util.Arrays;
import java.util.List;
import java.util.Set;
import java.util.TreeSet;
import java.util.regex.Matcher;
import java.util.regex.Pattern;

/** The class's face, and what of LANGUAGE.md can be seen in the source. */
public final class LanguageTest {
    private static final Check check = new Check("LanguageTest");
    private static final String[] FACE = {"write int long", "wipe", "fault", "lay", "food int int", "warmth int int",
        "hours int", "move int int", "make int int", "eat int", "throwOut int", "offIn int int", "lost int",
        "plan int int", "freeze int int", "lie int int int", "expect int", "buy", "print int", "smell int", "line",
        "cut int boolean", "ill int int", "span int int", "noSpans", "law int", "habit int int int", "keep", "back",
        "count int"};
    private static final List<String> BARRED = List.of("throw", "throws", "try", "catch", "finally", "synchronized",
            "assert", "package", "native");
    private static final List<String> IMPORTS = List.of("java.util.ArrayList", "java.util.List", "java.util.Arrays",
            "java.util.Iterator");
    private static final List<Class<?>> CONSTANTS = List.of(int.class, long.class, boolean.class, char.class,
            String.class, int[].class, long[].class, char[].class, byte[].class);

    public static void main(String[] args) throws IOException {
        face();
        classesInside();
        String source = Files.readString(Path.of(args.length > 0 ? args[0] : "src/main/java/OffFirst.java"),
                StandardCharsets.ISO_8859_1);
        source(source);
        check.end();
    }

    private static void face() {
        Set<String> want = new TreeSet<>(Arrays.asList(FACE));
        Set<String> got = new TreeSet<>();
        for (Method method : OffFirst.class.getDeclaredMethods()) {
            if (Modifier.isPublic(method.getModifiers())) {
                StringBuilder head = new StringBuilder(method.getName());
                for (Class<?> type : method.getParameterTypes()) {
                    head.append(' ').append(type.getName());
                }
                got.add(head.toString());
                check.holds(method + " answers an int", method.getReturnType() == int.class);
                check.holds(method + " is of an object", !Modifier.isStatic(method.getModifiers()));
            } else {
                check.holds(method + " is private", Modifier.isPrivate(method.getModifiers()));
            }
        }
        check.holds("the methods are those of the face: " + got, got.equals(want));
        Set<String> constants = new TreeSet<>();
        for (Field field : OffFirst.class.getDeclaredFields()) {
            if (Modifier.isPublic(field.getModifiers())) {
                check.holds(field + " is a constant", field.getModifiers()
                        == (Modifier.PUBLIC | Modifier.STATIC | Modifier.FINAL) && field.getType() == int.class);
                constants.add(field.getName());
            } else {
                check.holds(field + " is private", Modifier.isPrivate(field.getModifiers()));
            }
        }
        check.holds("the constants are those of the face",
                constants.equals(new TreeSet<>(List.of("BAD", "NO", "FULL", "NONE"))));
        Constructor<?>[] made = OffFirst.class.getDeclaredConstructors();
        check.holds("one public constructor without parameters", made.length == 1
                && Modifier.isPublic(made[0].getModifiers()) && made[0].getParameterCount() == 0);
        check.holds("the class is public and final",
                OffFirst.class.getModifiers() == (Modifier.PUBLIC | Modifier.FINAL));
    }

    private static void classesInside() {
        Set<String> face = new TreeSet<>();
        for (String head : FACE) {
            face.add(head.split(" ")[0]);
        }
        Class<?>[] inside = OffFirst.class.getDeclaredClasses();
        check.holds("some twelve classes at most", inside.length <= 12);
        fewFields(OffFirst.class);
        for (Class<?> one : inside) {
            check.holds(one + " is static, private or package-visible", Modifier.isStatic(one.getModifiers())
                    && !Modifier.isPublic(one.getModifiers()) && !Modifier.isProtected(one.getModifiers()));
            fewFields(one);
            for (Method method : one.getDeclaredMethods()) {
                check.holds(method + " has a name of its own", !Modifier.isPrivate(method.getModifiers())
                        || !face.contains(method.getName()));
                check.holds(method + " has at most seven parameters", method.getParameterCount() <= 7);
            }
        }
    }

    private static void fewFields(Class<?> one) {
        int fields = 0;
        for (Field field : one.getDeclaredFields()) {
            if (!Modifier.isStatic(field.getModifiers())) {
                fields++;
            } else if (!field.isSynthetic() && !field.isEnumConstant()) {
                check.holds(field + " is a constant", Modifier.isFinal(field.getModifiers())
                        && CONSTANTS.contains(field.getType()));
            }
        }
        check.holds(one + " has some twenty fields at most", fields <= 20);
    }

    private static void source(String source) {
        check.holds("the source is ASCII", source.chars().allMatch(sign -> sign == '\n' || sign >= 32 && sign < 127));
        String code = source.replaceAll("(?s)/\\*.*?\\*/", " ").replaceAll("//[^\n]*", " ");
        for (String word : BARRED) {
            check.holds("there is no " + word, !hasWord(code, word));
        }
        check.holds("there is no static block", !hasWord(code, "static\\s*\\{"));
        check.holds("there is no method reference", !code.contains("::"));
        check.holds("there is no lambda",
                !code.replaceAll("\\b(case\\b[^;:{}>]*|default\\s*)->", "").contains("->"));
        librarySource(code);
        methodsAreShort(source);
    }

    private static boolean hasWord(String code, String word) {
        return Pattern.compile("\\b" + word + "(?!\\w)").matcher(code).find();
    }

    private static void librarySource(String code) {
        Matcher imported = Pattern.compile("\\bimport\\s+([\\w.*\\s]+);").matcher(code);
        while (imported.find()) {
            check.holds(imported.group(1) + " may be imported", IMPORTS.contains(imported.group(1)));
        }
        check.holds("nothing ends in Exact", !hasWord(code, "\\w+Exact"));
        Matcher used = Pattern.compile("\\b(Math|Integer|Long|System|Arrays)\\.(\\w+)").matcher(code);
        while (used.find()) {
            check.holds(used.group() + " is of the library", isOfLibrary(used.group(1), used.group(2)));
        }
    }

    private static boolean isOfLibrary(String type, String name) {
        switch (type) {
            case "System":
                return name.equals("arraycopy");
            case "Arrays":
                return List.of("copyOf", "copyOfRange", "fill").contains(name);
            case "Math":
                return List.of("min", "max", "abs", "floorDiv", "floorMod").contains(name);
            default:
                return !name.startsWith("parse") && !name.startsWith("get") && !name.equals("decode");
        }
    }

    private static void methodsAreShort(String source) {
        String[] lines = source.split("\n");
        for (int from = 0; from < lines.length; from++) {
            Matcher head = Pattern.compile("^( {4}| {8})\\S.*\\) \\{$").matcher(lines[from]);
            if (head.matches()) {
                int to = from;
                while (to < lines.length - 1 && !lines[to].equals(head.group(1) + "}")) {
                    to++;
                }
                check.holds(lines[from].trim() + " has at most sixty lines", to - from < 60);
            }
        }
    }
}
