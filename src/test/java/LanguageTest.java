import java.io.IOException;
import java.lang.reflect.Constructor;
import java.lang.reflect.Field;
import java.lang.reflect.Method;
import java.lang.reflect.Modifier;
import java.nio.charset.StandardCharsets;
import java.nio.file.Files;
import java.nio.file.Path;
import java.util.Arrays;
import java.util.HashSet;
import java.util.List;
import java.util.Set;
import java.util.regex.Matcher;
import java.util.regex.Pattern;

/** What of LANGUAGE.md can be seen from the class and from its source's text. */
public final class LanguageTest {
    private static final Harness T = new Harness("LanguageTest");
    private static final List<String> FACE = List.of("feed", "back", "read", "place", "area", "has", "pieces",
        "corners", "bulges", "images", "least", "alike", "shows", "fill", "filled", "steps", "sets", "set", "needed",
        "cut", "part", "laid", "lay", "lift", "covers", "clashes", "claim", "annul", "verdict", "first", "points",
        "count");

    public static void main(String[] args) throws IOException {
        face();
        classesInside();
        words(Files.readString(Path.of("src/main/java/QuarterBoards.java"), StandardCharsets.ISO_8859_1));
        T.finish();
    }

    private static void face() {
        T.due("public and final", Modifier.isPublic(QuarterBoards.class.getModifiers())
            && Modifier.isFinal(QuarterBoards.class.getModifiers()), true);
        Set<String> found = new HashSet<>();
        for (Method method : QuarterBoards.class.getDeclaredMethods()) {
            boolean isFace = FACE.contains(method.getName());
            T.due(method.getName() + " is public", Modifier.isPublic(method.getModifiers()), isFace);
            T.due(method.getName() + " is private", Modifier.isPrivate(method.getModifiers()), !isFace);
            T.due(method.getName() + " is told once", found.add(method.getName()), true);
        }
        T.due("the face is whole", found.containsAll(FACE), true);
        for (Field field : QuarterBoards.class.getDeclaredFields()) {
            boolean isNone = field.getName().equals("NONE");
            T.due(field.getName(), Modifier.isPrivate(field.getModifiers()), !isNone);
        }
        for (Constructor<?> constructor : QuarterBoards.class.getDeclaredConstructors()) {
            T.due("constructor", constructor.getParameterCount(), 0);
        }
    }

    private static void classesInside() {
        Class<?>[] inside = QuarterBoards.class.getDeclaredClasses();
        T.due("some twelve classes", inside.length <= 11, true);
        for (Class<?> one : inside) {
            T.due(one + " is static", Modifier.isStatic(one.getModifiers()), true);
            T.due(one + " is private", Modifier.isPrivate(one.getModifiers()), true);
            for (Method method : one.getDeclaredMethods()) {
                T.due(one + "." + method.getName() + " bears a name of the face", FACE.contains(method.getName()), false);
                T.due(one + "." + method.getName() + " has seven parameters at most",
                    method.getParameterCount() <= 7, true);
            }
            for (Field field : one.getDeclaredFields()) {
                T.due(one + "." + field.getName() + " is not static or is final",
                    !Modifier.isStatic(field.getModifiers()) || Modifier.isFinal(field.getModifiers()), true);
            }
            long own = Arrays.stream(one.getDeclaredFields()).filter(f -> !Modifier.isStatic(f.getModifiers())).count();
            T.due(one + " has some twenty fields at most", own <= 20, true);
        }
    }

    private static void words(String source) {
        String code = source.replaceAll("(?s)/\\*.*?\\*/", " ").replaceAll("//[^\n]*", " ")
            .replaceAll("\"[^\"\n]*\"", "\"\"");
        for (String word : new String[] {"throw", "throws", "try", "catch", "synchronized", "assert", "import",
            "package", "protected", "instanceof", "Object", "Exception", "double", "float", "hashCode", "toString"}) {
            T.due("the word " + word, Pattern.compile("\\b" + word + "\\b").matcher(code).find(), false);
        }
        T.due("a lambda or method reference", code.contains("->") || code.contains("::"), false);
        T.due("a division", Pattern.compile("[^*/]/[^*/]|%").matcher(code).find(), false);
        T.due("a while without a counter", Pattern.compile("\\bwhile\\b").matcher(code).find(), false);
        Set<String> library = new HashSet<>();
        Matcher call = Pattern.compile("\\b(Math|Integer|Long|System|Arrays)\\.(\\w+)").matcher(code);
        while (call.find()) {
            library.add(call.group(1) + "." + call.group(2));
        }
        library.removeAll(Set.of("Math.min", "Integer.bitCount", "System.arraycopy"));
        T.due("other calls of the library: " + library, library.size(), 0);
        for (String line : source.split("\n")) {
            T.due("a line of at most 100 signs: " + line, line.length() <= 100, true);
        }
    }
}
