import java.io.IOException;
import java.nio.file.Files;
import java.nio.file.Path;
import java.util.ArrayList;
import java.util.List;
import java.util.regex.Matcher;
import java.util.regex.Pattern;

/** Rules of LANGUAGE.md that can be seen in the program's text, and that cells are safe to reach. */
public final class LanguageTest {
    private static final Check CHECK = new Check("LanguageTest");

    public static void main(String[] args) throws IOException {
        List<String> lines = Files.readAllLines(Path.of("src/main/java/OxenHome.java"));
        String code = withoutTexts(lines);
        forbidden(code);
        library(code);
        classes(code);
        cells(lines);
        methods(lines);
        CHECK.close();
    }

    /** The program without its comments and without what stands in quotes. */
    private static String withoutTexts(List<String> lines) {
        String code = String.join("\n", lines);
        code = code.replaceAll("(?s)/\\*.*?\\*/", "").replaceAll("//[^\n]*", "");
        return code.replaceAll("\"[^\"\n]*\"", "\"\"").replaceAll("'[^'\n]+'", "' '");
    }

    private static int count(String code, String pattern) {
        Matcher matcher = Pattern.compile(pattern).matcher(code);
        int found = 0;
        while (matcher.find()) {
            found++;
        }
        return found;
    }

    private static void forbidden(String code) {
        String[] words = {"package", "import", "throw", "throws", "try", "catch", "finally", "synchronized",
            "assert", "instanceof", "float", "double", "null", "Object", "Integer\\.valueOf", "hashCode",
            "toString", "equals", "protected", "native", "volatile", "transient", "var", "yield"};
        for (String word : words) {
            CHECK.due("uses of " + word, count(code, "\\b" + word + "\\b"), 0);
        }
        CHECK.due("lambdas", count(code, "->"), 0);
        CHECK.due("method references", count(code, "::"), 0);
        CHECK.due("annotations", count(code, "@"), 0);
        CHECK.due("texts joined by +", count(code, "\"\" *\\+|\\+ *\"\""), 0);
        CHECK.due("loops without a counter", count(code, "\\bwhile\\b"), 0);
        CHECK.due("Exact", count(code, "Exact\\b"), 0);
    }

    private static void library(String code) {
        Matcher matcher = Pattern.compile("\\b(Math|Integer|Long|System|Arrays|String)\\.(\\w+)").matcher(code);
        while (matcher.find()) {
            String used = matcher.group();
            boolean fine = List.of("Math.min", "Math.max", "Math.abs", "Integer.bitCount").contains(used);
            CHECK.due("library: " + used, fine, true);
        }
    }

    private static void classes(String code) {
        CHECK.due("classes inside", count(code, "private static final class "), count(code, "\\bclass ") - 1);
        CHECK.due("some twelve classes", count(code, "\\bclass ") <= 12, true);
        CHECK.due("public members", count(code, "\\bpublic\\b"), 32);
        CHECK.due("static fields are final", count(code, "static int \\w+ =|static String \\w+ ="), 0);
        String[] face = {"farm", "field", "ox", "feed", "end", "text", "fault", "by", "yoke", "loose", "drive",
            "sell", "whistle", "plough", "night", "undo", "of", "heeds", "call", "hush", "stay", "plan",
            "longest", "dark", "apart", "thunder", "image", "back", "about"};
        for (String name : face) {
            int methods = count(code, "\\b(int|long|boolean|void) " + name + "\\(");
            CHECK.due("methods named " + name, methods, 1);
        }
    }

    /** Only a Row reaches into an array, and tests the index where it does. */
    private static void cells(List<String> lines) {
        String owner = "";
        for (String line : lines) {
            Matcher matcher = Pattern.compile("class (\\w+)").matcher(line);
            if (matcher.find() && !line.trim().startsWith("*")) {
                owner = matcher.group(1);
            }
            if (Pattern.compile("\\w\\[|\\[\\]").matcher(line).find()) {
                CHECK.due("an array outside Row: " + line.trim(), owner.equals("Row"), true);
            }
        }
    }

    private static void methods(List<String> lines) {
        List<String> open = new ArrayList<>();
        int since = 0;
        for (int i = 0; i < lines.size(); i++) {
            String line = lines.get(i);
            if (line.matches(" {4}( {4})?[\\w ]+\\(.*\\) \\{")) {
                open.add(line);
                since = i;
                CHECK.due("parameters: " + line.trim(), line.split(",").length <= 7, true);
            }
            if (line.matches(" {4}( {4})?\\}") && !open.isEmpty()) {
                CHECK.due("lines of " + open.get(open.size() - 1).trim(), i - since <= 60, true);
                open.clear();
            }
        }
        CHECK.due("methods were seen", since > 0, true);
    }
}
