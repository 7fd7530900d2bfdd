import java.io.IOException;
import java.nio.charset.StandardCharsets;
import java.nio.file.Files;
import java.nio.file.Path;
import java.util.List;
import java.util.Set;
import java.util.regex.Matcher;
import java.util.regex.Pattern;

/** Those rules of LANGUAGE.md that can be seen in the lines of the class. */
public final class LanguageTest extends Checks {
    private static final Set<String> IMPORTS = Set.of("java.util.Arrays", "java.util.ArrayList", "java.util.Iterator",
        "java.util.List", "java.util.NoSuchElementException");
    private static final Set<String> LIBRARY = Set.of("Math.max", "Math.min", "Math.abs", "Math.floorDiv",
        "Math.floorMod", "Integer.bitCount", "Integer.compare", "Integer.MAX_VALUE", "Integer.MIN_VALUE",
        "Long.bitCount", "Long.compare", "System.arraycopy", "Arrays.fill", "Arrays.copyOf", "Arrays.copyOfRange");
    private static final String EXCEPTIONS = "IllegalStateException|IllegalArgumentException|IndexOutOfBoundsException"
        + "|ArithmeticException|UnsupportedOperationException|NoSuchElementException|RuntimeException";
    // The class catches nothing, so that nothing that the machine throws can be caught.
    private static final Pattern WORDS = Pattern.compile(
        "->|::|\\b(try|catch|finally|synchronized|assert|volatile|transient|native|var|hashCode|getClass|Object|package)\\b");
    private static final Pattern METHOD = Pattern.compile("( +)(?:(?:public|private|static|final) )*[\\w\\[\\]]+ \\w+\\((.*)\\).*\\{");
    private static final int LINES_MOST = 60;
    private static final int PARAMETERS_MOST = 7;
    private static final int CLASSES_MOST = 12;

    public static void main(String[] args) throws IOException {
        about("LANGUAGE.md");
        Path path = Path.of("src/main/java/RecordDesk.java");
        List<String> lines = Files.readAllLines(path, StandardCharsets.ISO_8859_1);
        int classes = 0;
        for (int i = 0; i < lines.size(); i++) {
            String all = lines.get(i);
            String line = withoutComment(all);
            if (!all.matches("[\\x20-\\x7e]*")) bad("3 and 4: signs", i, all);
            if (line.matches("import .*") && !IMPORTS.contains(line.replaceAll("import |;", ""))) bad("4: import", i, line);
            if (WORDS.matcher(line).find()) bad("2 and 6: words", i, line);
            if (line.contains("throw ") && !line.matches(" *(default: )?throw new (" + EXCEPTIONS + ")\\((\"[^\"]*\")?\\);")) bad("6: throw", i, line);
            if (line.matches(".*\\bstatic (?!final\\b|class\\b)[\\w\\[\\]]+ \\w+( =.*|;)")) bad("5: static field", i, line);
            if (line.matches(".*\\b(class|interface|enum|record) [A-Z].*")) classes++;
            library(i, line);
            method(lines, i, line);
        }
        if (classes > CLASSES_MOST) same("11: classes", String.valueOf(classes), "at most " + CLASSES_MOST);
        finish("the rules that can be seen are kept");
    }

    private static void bad(String rule, int i, String line) {
        same("rule " + rule + ", line " + (i + 1), line.trim(), "another one");
    }

    private static String withoutComment(String line) {
        return line.matches(" */?\\*.*") ? "" : line.replaceAll("//.*", "");
    }

    private static void library(int i, String line) {
        Matcher calls = Pattern.compile("\\b(Math|Integer|Long|System|Arrays)\\.\\w+").matcher(line);
        while (calls.find() && !line.startsWith("import")) {
            if (!LIBRARY.contains(calls.group())) bad("4: the library", i, line);
        }
    }

    private static void method(List<String> lines, int i, String line) {
        Matcher head = METHOD.matcher(line);
        if (!head.matches() || line.matches(" *(\\} )?(else|return|new)\\b.*")) return;
        if (head.group(2).split(",").length > PARAMETERS_MOST) bad("11: parameters", i, line);
        int end = i + 1;
        while (end < lines.size() && !lines.get(end).equals(head.group(1) + "}")) end++;
        if (end - i + 1 > LINES_MOST) bad("11: a long method", i, line);
    }
}
