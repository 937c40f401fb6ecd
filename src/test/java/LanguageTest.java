import java.io.IOException;
import java.lang.reflect.Constructor;
import java.lang.reflect.Field;
import java.lang.reflect.Method;
import java.lang.reflect.Modifier;
import java.nio.charset.StandardCharsets;
import java.nio.file.Files;
import java.nio.file.Path;
import java.util.ArrayList;
import java.util.Arrays;
import java.util.HashSet;
import java.util.List;
import java.util.Set;
import java.util.regex.Matcher;
import java.util.regex.Pattern;

/** What of LANGUAGE.md can be seen from the class and from its source's text. */
public final class LanguageTest {
    private static final Harness T = new Harness("LanguageTest");
    private static final List<String> FACE = List.of("feed", "back", "read", "place", "area", "has", "pieces",
        "corners", "bulges", "images", "least", "alike", "shows", "fill", "filled", "steps", "sets", "set", "needed",
        "cut", "part", "laid", "lay", "lift", "covers", "clashes", "claim", "annul", "verdict", "first", "points",
        "count");

    private static final List<Class<?>> NUMBERS = List.of(int.class, long.class, short.class, byte.class, char.class,
        boolean.class);

    public static void main(String[] args) throws IOException {
        String source = Files.readString(Path.of("src/main/java/QuarterBoards.java"), StandardCharsets.ISO_8859_1);
        face();
        faceOfTheDocument(Files.readString(Path.of("../shared/DOC.md"), StandardCharsets.ISO_8859_1));
        classesInside();
        fields();
        words(source);
        lengths(source);
        T.finish();
    }

    // Rule 1: the document's constructor, methods and constants, each with its own types.
    private static void faceOfTheDocument(String document) {
        Matcher line = Pattern.compile("    public (int|boolean) (\\w+)\\(([^)]*)\\);").matcher(document);
        int many = 0;
        while (line.find()) {
            many++;
            List<Class<?>> types = new ArrayList<>();
            for (String parameter : line.group(3).isEmpty() ? new String[0] : line.group(3).split(", ")) {
                types.add(parameter.startsWith("boolean ") ? boolean.class : int.class);
            }
            for (Method method : QuarterBoards.class.getDeclaredMethods()) {
                if (method.getName().equals(line.group(2))) {
                    T.due("parameters of " + line.group(2), Arrays.asList(method.getParameterTypes()).equals(types), true);
                    T.due("answer of " + line.group(2), method.getReturnType().toString(), line.group(1));
                    T.due(line.group(2) + " is of an object", Modifier.isStatic(method.getModifiers()), false);
                }
            }
        }
        T.due("methods of the document", many, FACE.size());
    }

    // Rule 1: no other member can be seen from outside.
    private static void face() {
        T.due("public and final", Modifier.isPublic(QuarterBoards.class.getModifiers())
            && Modifier.isFinal(QuarterBoards.class.getModifiers()), true);
        Set<String> found = new HashSet<>();
        for (Method method : QuarterBoards.class.getDeclaredMethods()) {
            boolean isFace = FACE.contains(method.getName());
            T.due(method.getName() + " is public", Modifier.isPublic(method.getModifiers()), isFace);
            T.due(method.getName() + " is private", Modifier.isPrivate(method.getModifiers()), !isFace);
            T.due(method.getName() + " is told once", found.add(method.getName()), true);
        }
        T.due("the face is whole", found.containsAll(FACE), true);
        for (Field field : QuarterBoards.class.getDeclaredFields()) {
            boolean isNone = field.getName().equals("NONE");
            T.due(field.getName(), Modifier.isPrivate(field.getModifiers()), !isNone);
        }
        for (Constructor<?> constructor : QuarterBoards.class.getDeclaredConstructors()) {
            T.due("constructor", constructor.getParameterCount(), 0);
        }
    }

    // Rules 3 and 5: of which types fields are, and static ones are constants.
    private static void fields() {
        List<Class<?>> own = new ArrayList<>(List.of(QuarterBoards.class.getDeclaredClasses()));
        own.add(QuarterBoards.class);
        for (Class<?> one : own) {
            for (Field field : one.getDeclaredFields()) {
                Class<?> type = field.getType();
                Class<?> element = type.isArray() ? type.getComponentType() : type;
                boolean isTable = element.isArray() && NUMBERS.contains(element.getComponentType());
                boolean isConstant = NUMBERS.contains(type) || type == String.class;
                T.due(one + "." + field.getName() + " is of a type that is left",
                    NUMBERS.contains(element) || own.contains(element) || isTable || type == String.class, true);
                T.due(one + "." + field.getName() + " is a constant or of an object", isConstant
                    && Modifier.isFinal(field.getModifiers()) || !Modifier.isStatic(field.getModifiers()), true);
            }
            long ofObject = Arrays.stream(one.getDeclaredFields()).filter(f -> !Modifier.isStatic(f.getModifiers())).count();
            T.due(one + " has some twenty fields at most", ofObject <= 20, true);
        }
    }

    // Rule 11: methods stay short.
    private static void lengths(String source) {
        int start = -1;
        String[] lines = source.split("\n");
        for (int i = 0; i < lines.length; i++) {
            if (lines[i].matches("( {4}| {8})[a-zA-Z].*\\) \\{")) {
                start = i;
            } else if (lines[i].matches("( {4}| {8})\\}") && start >= 0) {
                T.due("a method of at most sixty lines:" + lines[start], i - start < 60, true);
                start = -1;
            }
        }
    }

    // Rules 2 and 11: classes inside.
    private static void classesInside() {
        Class<?>[] inside = QuarterBoards.class.getDeclaredClasses();
        T.due("some twelve classes", inside.length <= 11, true);
        for (int i = 1; i <= 3; i++) {
            T.due("a class without a name", QuarterBoards.class.getResource("QuarterBoards$" + i + ".class") == null, true);
        }
        for (Class<?> one : inside) {
            T.due(one + " is static", Modifier.isStatic(one.getModifiers()), true);
            T.due(one + " is private", Modifier.isPrivate(one.getModifiers()), true);
            for (Method method : one.getDeclaredMethods()) {
                T.due(one + "." + method.getName() + " bears a name of the face", FACE.contains(method.getName()), false);
                T.due(one + "." + method.getName() + " has seven parameters at most",
                    method.getParameterCount() <= 7, true);
            }
            for (Field field : one.getDeclaredFields()) {
                T.due(one + "." + field.getName() + " is not static or is final",
                    !Modifier.isStatic(field.getModifiers()) || Modifier.isFinal(field.getModifiers()), true);
            }
        }
    }

    // Rules 2, 4, 6, 7 and 9: words and calls that are not left.
    private static void words(String source) {
        String code = source.replaceAll("(?s)/\\*.*?\\*/", " ").replaceAll("//[^\n]*", " ")
            .replaceAll("\"[^\"\n]*\"", "\"\"");
        for (String word : new String[] {"throw", "throws", "try", "catch", "synchronized", "assert", "import",
            "package", "protected", "instanceof", "Object", "Exception", "double", "float", "hashCode", "toString"}) {
            T.due("the word " + word, Pattern.compile("\\b" + word + "\\b").matcher(code).find(), false);
        }
        T.due("a lambda or method reference", code.contains("->") || code.contains("::"), false);
        T.due("a division", Pattern.compile("[^*/]/[^*/]|%").matcher(code).find(), false);
        T.due("a while without a counter", Pattern.compile("\\bwhile\\b").matcher(code).find(), false);
        Set<String> library = new HashSet<>();
        Matcher call = Pattern.compile("\\b(Math|Integer|Long|System|Arrays)\\.(\\w+)").matcher(code);
        while (call.find()) {
            library.add(call.group(1) + "." + call.group(2));
        }
        library.removeAll(Set.of("Math.min", "Integer.bitCount", "System.arraycopy"));
        T.due("other calls of the library: " + library, library.size(), 0);
        for (String line : source.split("\n")) {
            T.due("a line of at most 100 signs: " + line, line.length() <= 100, true);
        }
    }
}
