import java.io.IOException;
import java.net.URL;
import java.net.URLClassLoader;
import java.nio.file.Files;
import java.nio.file.Path;
import java.util.List;
import java.util.regex.Matcher;
import java.util.regex.Pattern;
import javax.tools.JavaCompiler;
import javax.tools.ToolProvider;

/** The examples of README.md, run in their order: each answers what stands behind it there. */
public final class ReadmeTest {
    private static final Check CHECK = new Check("ReadmeTest");
    private static final Pattern BLOCK = Pattern.compile("```java\n(.*?)```", Pattern.DOTALL);
    private static final Pattern ANSWERED =
        Pattern.compile("(?:int (\\w+) = )?(home\\..*\\)); +// (-?\\d+|true|false)\\b.*");

    public static void main(String[] args) throws Exception {
        String page = Files.readString(Path.of("README.md"));
        examples(page);
        naming(page);
        CHECK.close();
    }

    private static void examples(String page) throws Exception {
        Path folder = Files.createTempDirectory("readme");
        try {
            compile(folder, example(page));
            try (URLClassLoader loader = new URLClassLoader(new URL[] {folder.toUri().toURL()})) {
                List<?> answers = (List<?>) loader.loadClass("Example").getMethod("answers").invoke(null);
                for (Object answer : answers) {
                    String[] told = (String[]) answer;
                    CHECK.due(told[0] + " -> " + told[1] + ", README.md says " + told[2],
                        told[1].equals(told[2]), true);
                }
            }
        } finally {
            empty(folder);
        }
    }

    /** Methods stand beside, statements inside the method whose answers are looked at. */
    private static String example(String page) {
        StringBuilder methods = new StringBuilder();
        StringBuilder calls = new StringBuilder();
        Matcher block = BLOCK.matcher(page);
        while (block.find()) {
            if (block.group(1).startsWith("static ")) {
                methods.append(block.group(1));
            } else {
                block.group(1).lines().forEach(line -> calls.append(asked(line)).append('\n'));
            }
        }
        return "public final class Example {\n" + methods
            + "public static java.util.List<String[]> answers() {\n"
            + "java.util.List<String[]> answers = new java.util.ArrayList<>();\n"
            + calls + "return answers;\n}\n}\n";
    }

    private static String asked(String line) {
        Matcher call = ANSWERED.matcher(line);
        if (!call.matches()) {
            CHECK.due("tells an answer that is looked at: " + line, !line.contains("//"), true);
            return line;
        }
        String name = call.group(1);
        String got = name == null ? call.group(2) : name;
        String keep = "answers.add(new String[] {\"" + call.group(2).replace("\"", "\\\"")
            + "\", String.valueOf(" + got + "), \"" + call.group(3) + "\"});";
        return name == null ? keep : line + "\n" + keep;
    }

    private static void compile(Path folder, String program) throws IOException {
        Path file = Files.writeString(folder.resolve("Example.java"), program);
        JavaCompiler compiler = ToolProvider.getSystemJavaCompiler();
        int code = compiler.run(null, null, null, "-cp", System.getProperty("java.class.path"),
            "-d", folder.toString(), file.toString());
        if (code != 0) {
            throw new IllegalStateException("the examples of README.md can't be compiled");
        }
    }

    private static void empty(Path folder) throws IOException {
        try (var files = Files.list(folder)) {
            for (Path file : files.toList()) {
                Files.delete(file);
            }
        }
        Files.delete(folder);
    }

    /** That the page names each call of the class, and each test. */
    private static void naming(String page) throws IOException {
        for (var method : OxenHome.class.getDeclaredMethods()) {
            if (java.lang.reflect.Modifier.isPublic(method.getModifiers())) {
                CHECK.due("README.md names " + method.getName(), page.contains("`" + method.getName() + "`"), true);
            }
        }
        try (var files = Files.list(Path.of("src/test/java"))) {
            for (Path file : files.toList()) {
                String test = file.getFileName().toString().replace(".java", "");
                boolean named = page.contains("`" + test + "`")
                    || test.endsWith("BoundsTest") && page.contains("`*BoundsTest`");
                CHECK.due("README.md names " + test, named || !test.endsWith("Test"), true);
            }
        }
    }
}
