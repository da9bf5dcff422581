import java.net.URL;
import java.net.URLClassLoader;
import java.nio.file.Files;
import java.nio.file.Path;
import java.util.ArrayList;
import java.util.List;
import java.util.Map;
import java.util.TreeMap;
import java.util.regex.Matcher;
import java.util.regex.Pattern;
import javax.tools.ToolProvider;

/** The example of README.md is compiled as it stands there, and each of its calls answers what is written behind it. */
public final class ReadmeTest {
    private static final Pattern BLOCK = Pattern.compile("^```java\n(.*?)^```$", Pattern.MULTILINE | Pattern.DOTALL);
    private static final Pattern ROW = Pattern.compile("(x\\.\\w+\\(.*\\)); *// (-?\\d+|true|false)");
    private static final Pattern THROWING = Pattern.compile("(x\\.\\w+\\(.*\\)); *// throws (\\w+)");

    public static void main(String[] args) throws Exception {
        Path project = Path.of(System.getProperty("project", "."));
        List<String> blocks = new ArrayList<>();
        Matcher m = BLOCK.matcher(Files.readString(project.resolve("README.md")));
        while (m.find()) {
            blocks.add(m.group(1));
        }
        Checks.due("a block for texts and one for the example", blocks.size(), 2);
        if (Checks.failures() == 0) {
            run(program(blocks.get(0), blocks.get(1)));
        }
        Checks.finish();
    }

    private static String program(String helper, String example) {
        StringBuilder text = new StringBuilder("import java.util.*;\npublic final class ReadmeExample {\n");
        text.append(helper).append("public static void run(Map<String, Boolean> told) {\n");
        int number = 0;
        for (String line : example.split("\n")) {
            number++;
            String name = "\"row " + number + "\"";
            Matcher row = ROW.matcher(line);
            Matcher throwing = THROWING.matcher(line);
            if (row.matches()) {
                text.append("told.put(" + name + ", " + row.group(1) + " == " + row.group(2) + ");\n");
            } else if (throwing.matches()) {
                text.append("try { " + throwing.group(1) + "; told.put(" + name + ", false); } catch ("
                        + throwing.group(2) + " e) { told.put(" + name + ", true); }\n");
            } else {
                Checks.due("a row with a call and no answer: " + line, line.trim().startsWith("x."), false);
                text.append(line).append('\n');
            }
        }
        return text.append("}\n}\n").toString();
    }

    private static void run(String program) throws Exception {
        Path made = Files.createTempDirectory("readme");
        Path file = made.resolve("ReadmeExample.java");
        Files.writeString(file, program);
        int code = ToolProvider.getSystemJavaCompiler().run(null, null, null, "-cp",
                System.getProperty("java.class.path"), "-d", made.toString(), file.toString());
        Checks.due("the example compiles", code, 0);
        if (code == 0) {
            Map<String, Boolean> told = new TreeMap<>();
            try (URLClassLoader loader = new URLClassLoader(new URL[] {made.toUri().toURL()})) {
                loader.loadClass("ReadmeExample").getMethod("run", Map.class).invoke(null, told);
            }
            Checks.due("rows with answers", told.size() > 30, true);
            told.forEach((row, right) -> Checks.due("the example's " + row + " is right", right, true));
        }
        Files.deleteIfExists(made.resolve("ReadmeExample.class"));
        Files.deleteIfExists(file);
        Files.deleteIfExists(made);
    }
}
