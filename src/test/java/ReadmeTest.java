import java.io.IOException;
import java.lang.reflect.Method;
import java.lang.reflect.Modifier;
import java.net.URL;
import java.net.URLClassLoader;
import java.nio.file.Files;
import java.nio.file.Path;
import java.util.ArrayList;
import java.util.List;
import java.util.regex.Matcher;
import java.util.regex.Pattern;
import javax.tools.JavaCompiler;
import javax.tools.ToolProvider;

/**
 * What README.md shows of calls is so when run: its java blocks are put into a class, each line "call;  // answer: a word"
 * as a check of that call, and the class is compiled and run.
 */
public final class ReadmeTest {
    private static final String NAME = "ReadmeBlocks";
    private static final Pattern BLOCK = Pattern.compile("```java\n(.*?)```", Pattern.DOTALL);
    private static final Pattern TEXT = Pattern.compile("```text\n(.*?)```", Pattern.DOTALL);
    private static final Pattern SHOWN = Pattern.compile("^(\\S.*);\\s*// ([^:\\s]+)(:.*)?$");
    private static final Pattern CALL = Pattern.compile("\\bx\\.(\\w+)\\(");
    private static final Checks CHECKS = new Checks();

    public static void main(String[] args) throws IOException, ReflectiveOperationException {
        String readme = Files.readString(Path.of("README.md"));
        List<String> blocks = blocks(readme);
        textsAreTexts(readme);
        eachCallIsShown(readme);
        eachLineHasAnswer(blocks);
        for (String[] row : runBlocks(sourceOf(blocks))) {
            CHECKS.due("README.md: " + row[0] + " answers " + row[2] + ", and it says " + row[1], 1, row[1].equals(row[2]));
        }
        CHECKS.finish();
    }

    private static List<String> blocks(String readme) {
        List<String> blocks = new ArrayList<>();
        Matcher block = BLOCK.matcher(readme);
        while (block.find()) {
            blocks.add(block.group(1));
        }
        return blocks;
    }

    private static void textsAreTexts(String readme) {
        Matcher text = TEXT.matcher(readme);
        boolean found = false;
        while (text.find()) {
            found = true;
            CHECKS.dueText(text.group(1), (int) text.group(1).chars().filter(sign -> sign == ';').count(), 0);
        }
        CHECKS.due("README.md shows a text", 1, found);
    }

    private static void eachCallIsShown(String readme) {
        for (Method method : RepeatIndex.class.getDeclaredMethods()) {
            if (Modifier.isPublic(method.getModifiers())) {
                boolean shown = Pattern.compile("^x\\." + method.getName() + "\\(.*;\\s*// ", Pattern.MULTILINE)
                    .matcher(readme).find();
                CHECKS.due("README.md shows an answer of " + method.getName(), 1, shown);
            }
        }
    }

    private static void eachLineHasAnswer(List<String> blocks) {
        for (String block : blocks) {
            for (String line : block.split("\n")) {
                boolean shows = !isMethod(block) && CALL.matcher(line).find();
                CHECKS.due("README.md shows no answer: " + line, 0, shows && !SHOWN.matcher(line).matches());
            }
        }
    }

    private static boolean isMethod(String block) {
        return block.startsWith("static ");
    }

    /** A class whose run() answers a row for each line shown: the call, the answer told, the answer given. */
    private static String sourceOf(List<String> blocks) {
        StringBuilder methods = new StringBuilder();
        StringBuilder calls = new StringBuilder();
        for (int number = 0; number < blocks.size(); number++) {
            String block = blocks.get(number);
            if (isMethod(block)) {
                methods.append(block);
            } else {
                calls.append("block").append(number).append("();\n");
                methods.append("static void block").append(number).append("() {\n");
                for (String line : block.split("\n")) {
                    methods.append(checked(line)).append('\n');
                }
                methods.append("}\n");
            }
        }
        return "import java.util.*;\nimport java.util.concurrent.Callable;\npublic final class " + NAME + " {\n"
            + "static final List<String[]> ROWS = new ArrayList<>();\n"
            + "public static List<String[]> run() {\n" + calls + "return ROWS;\n}\n"
            + "static void row(String call, String told, Callable<Object> shown) {\n"
            + "String given;\n"
            + "try { given = String.valueOf(shown.call()); } catch (Exception e) { given = e.getClass().getSimpleName(); }\n"
            + "ROWS.add(new String[] {call, told, given});\n}\n"
            + methods + "}\n";
    }

    private static String checked(String line) {
        Matcher shown = SHOWN.matcher(line);
        if (!shown.matches()) {
            return line;
        }
        String call = shown.group(1);
        return "row(" + quoted(call) + ", " + quoted(shown.group(2)) + ", () -> " + call + ");";
    }

    private static String quoted(String text) {
        return "\"" + text.replace("\\", "\\\\").replace("\"", "\\\"") + "\"";
    }

    private static List<String[]> runBlocks(String source) throws IOException, ReflectiveOperationException {
        Path place = Files.createTempDirectory("readme");
        Path file = place.resolve(NAME + ".java");
        Path made = place.resolve(NAME + ".class");
        try {
            Files.writeString(file, source);
            JavaCompiler compiler = ToolProvider.getSystemJavaCompiler();
            int failed = compiler.run(null, null, null, "-proc:none", "-cp", System.getProperty("java.class.path"),
                "-d", place.toString(), file.toString());
            CHECKS.due("README.md's blocks compile", 0, failed);
            return failed == 0 ? rowsOf(place) : List.of();
        } finally {
            Files.deleteIfExists(file);
            Files.deleteIfExists(made);
            Files.deleteIfExists(place);
        }
    }

    @SuppressWarnings("unchecked")
    private static List<String[]> rowsOf(Path place) throws IOException, ReflectiveOperationException {
        try (URLClassLoader loader = new URLClassLoader(new URL[] {place.toUri().toURL()})) {
            return (List<String[]>) loader.loadClass(NAME).getMethod("run").invoke(null);
        }
    }
}
