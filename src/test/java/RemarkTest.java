import java.io.IOException;
import java.nio.charset.StandardCharsets;
import java.nio.file.DirectoryStream;
import java.nio.file.Files;
import java.nio.file.Path;
import java.util.ArrayList;
import java.util.LinkedHashMap;
import java.util.List;
import java.util.Map;
import java.util.TreeSet;
import java.util.regex.Matcher;
import java.util.regex.Pattern;

/**
 * The remarks of the edge tests: each names a part of the document and a sentence in quotes. That
 * sentence stands there, no sentence of the terms and promises is without a remark, and every test
 * that has one is run.
 */
public final class RemarkTest {
    private static final Harness T = new Harness("RemarkTest");
    private static final Pattern REMARK = Pattern.compile("(What it is|Terms [IV]+|Promise \\d+): \"([^\"]*)\"");

    public static void main(String[] args) throws IOException {
        Map<String, String> parts = partsOfTheDocument(
            Files.readString(Path.of("../shared/DOC.md"), StandardCharsets.ISO_8859_1));
        T.due("parts of the document", parts.size(), 1 + 4 + 33);
        Map<String, boolean[]> seen = new LinkedHashMap<>();
        parts.forEach((name, text) -> seen.put(name, new boolean[text.length()]));
        for (Path file : edgeTests()) {
            String source = Files.readString(file, StandardCharsets.ISO_8859_1);
            checkRemarks(file.getFileName().toString(), source, parts, seen);
            checkCalls(file.getFileName().toString(), source);
        }
        parts.forEach((name, text) -> T.due("without a remark in " + name, unseen(text, seen.get(name)), ""));
        T.finish();
    }

    private static TreeSet<Path> edgeTests() throws IOException {
        TreeSet<Path> files = new TreeSet<>();
        try (DirectoryStream<Path> all = Files.newDirectoryStream(Path.of("src/test/java"), "*EdgeTest.java")) {
            all.forEach(files::add);
        }
        return files;
    }

    /** What it is (but for its first paragraph), the terms' four parts, and the promises without their heads. */
    private static Map<String, String> partsOfTheDocument(String document) {
        Map<String, StringBuilder> parts = new LinkedHashMap<>();
        String name = "";
        boolean isCode = false;
        for (String line : document.split("\n")) {
            Matcher promise = Pattern.compile("## (Promise \\d+):.*").matcher(line);
            Matcher term = Pattern.compile("==== ([IV]+)\\.(.*)").matcher(line);
            if (line.startsWith("```")) {
                isCode = line.equals("```java");
            } else if (line.startsWith("#")) {
                name = promise.matches() ? promise.group(1) : line.equals("## Terms") ? "Terms I" : line.substring(2).trim();
            } else if (term.matches()) {
                name = "Terms " + term.group(1);
                parts.put(name, new StringBuilder(term.group(2)));
            } else if (!isCode && REMARK.matcher(name + ": \"\"").matches()) {
                // the house's first paragraph ends with a mark of the part behind it, and promises nothing
                boolean isHouse = name.equals("What it is") && line.endsWith("==== I.");
                parts.computeIfAbsent(name, k -> new StringBuilder()).append(isHouse ? "" : line).append(' ');
            }
        }
        Map<String, String> texts = new LinkedHashMap<>();
        parts.forEach((key, text) -> texts.put(key, plain(text.toString()).replaceFirst("^`[^`]*`: ", "")));
        return texts;
    }

    private static String plain(String text) {
        return text.replaceAll("\\s+", " ").trim();
    }

    private static void checkRemarks(String file, String source, Map<String, String> parts, Map<String, boolean[]> seen) {
        for (String block : commentBlocks(source)) {
            Matcher remark = REMARK.matcher(block);
            while (remark.find()) {
                String text = parts.getOrDefault(remark.group(1), "");
                int at = text.indexOf(remark.group(2));
                T.due(file + ", a remark that stands in the document: " + remark.group(), at >= 0, true);
                for (; at >= 0; at = text.indexOf(remark.group(2), at + 1)) {
                    for (int i = at; i < at + remark.group(2).length(); i++) {
                        seen.get(remark.group(1))[i] = true;
                    }
                }
            }
        }
    }

    /** Lines of remarks one below the other, joined. */
    private static List<String> commentBlocks(String source) {
        List<String> blocks = new ArrayList<>();
        StringBuilder open = new StringBuilder();
        for (String line : source.split("\n")) {
            if (line.startsWith("    // ")) {
                open.append(line.substring(7)).append(' ');
            } else {
                blocks.add(plain(open.toString()));
                open.setLength(0);
            }
        }
        return blocks;
    }

    private static void checkCalls(String file, String source) {
        Matcher test = Pattern.compile("// .*\n    private static void (\\w+)\\(\\) \\{").matcher(source);
        int many = 0;
        while (test.find()) {
            many++;
            T.due(file + ": main runs " + test.group(1), source.contains("        " + test.group(1) + "();\n"), true);
        }
        T.due(file + " has tests with remarks", many > 0, true);
    }

    private static String unseen(String text, boolean[] seen) {
        StringBuilder left = new StringBuilder();
        for (int i = 0; i < text.length(); i++) {
            left.append(seen[i] ? ' ' : text.charAt(i));
        }
        return plain(left.toString().replaceAll("[^A-Za-z0-9]+", " "));
    }
}
