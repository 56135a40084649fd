import java.io.IOException;
import java.lang.reflect.Method;
import java.lang.reflect.Modifier;
import java.net.URI;
import java.net.URL;
import java.net.URLClassLoader;
import java.nio.file.DirectoryStream;
import java.nio.file.Files;
import java.nio.file.Path;
import java.util.ArrayList;
import java.util.List;
import java.util.regex.Matcher;
import java.util.regex.Pattern;
import javax.tools.JavaCompiler;
import javax.tools.JavaFileObject;
import javax.tools.SimpleJavaFileObject;
import javax.tools.ToolProvider;

/** README.md: its examples are Java and answer what they say, every call is among them, every test is named. */
public final class ReadmeTest {
    private static final Pattern BLOCK = Pattern.compile("```java\\n(.*?)```", Pattern.DOTALL);
    private static final Pattern ANSWER = Pattern.compile("^(judge\\.\\w+\\(.*\\)); +// (-?\\d+):.*$", Pattern.MULTILINE);
    private static final Pattern NAMED = Pattern.compile("`(\\w+Test)`");

    public static void main(String[] args) throws Exception {
        String readme = Files.readString(Path.of("README.md"));
        List<String> blocks = new ArrayList<>();
        for (Matcher found = BLOCK.matcher(readme); found.find();) {
            blocks.add(found.group(1));
        }
        Report.due("blocks of Java", blocks.size(), 2);
        eachLineHasItsAnswer(blocks);
        run(blocks);
        everyCallIsShown(blocks);
        everyTestIsNamed(readme);
        Report.due("the way to run the tests is told", readme.contains("```sh\n.ci/run\n```") ? 1 : 0, 1);
        Report.due("and can be gone", Files.isExecutable(Path.of(".ci/run")) ? 1 : 0, 1);
        Report.end();
    }

    /** A line with words behind it that has no number would go unnoticed. */
    private static void eachLineHasItsAnswer(List<String> blocks) {
        for (String block : blocks) {
            for (String line : block.split("\n")) {
                boolean told = !line.contains("//") || ANSWER.matcher(line).matches();
                Report.due("whether '" + line + "' tells its answer", told ? 1 : 0, 1);
            }
        }
    }

    private static String program(List<String> blocks) {
        StringBuilder out = new StringBuilder("public final class Examples {\n");
        for (int i = 0; i < blocks.size(); i++) {
            Matcher lines = ANSWER.matcher(blocks.get(i));
            StringBuilder checked = new StringBuilder();
            while (lines.find()) {
                String call = lines.group(1);
                String shown = call.replace("\\", "\\\\").replace("\"", "\\\"");
                String row = "rows.add(new Object[] {\"" + shown + "\", (long) " + call + ", " + lines.group(2) + "L});";
                lines.appendReplacement(checked, Matcher.quoteReplacement(row));
            }
            lines.appendTail(checked);
            out.append("public static void block").append(i).append("(java.util.List<Object[]> rows) {\n");
            out.append(checked).append("}\n");
        }
        return out.append("}\n").toString();
    }

    private static void run(List<String> blocks) throws Exception {
        Path target = Files.createTempDirectory("readme");
        String program = program(blocks);
        JavaFileObject source = new SimpleJavaFileObject(URI.create("string:///Examples.java"), JavaFileObject.Kind.SOURCE) {
            @Override
            public CharSequence getCharContent(boolean ignored) {
                return program;
            }
        };
        JavaCompiler compiler = ToolProvider.getSystemJavaCompiler();
        List<String> options = List.of("-d", target.toString(), "-cp", System.getProperty("java.class.path"));
        boolean compiled = compiler.getTask(null, null, null, options, null, List.of(source)).call();
        Report.due("the examples compile", compiled ? 1 : 0, 1);
        if (compiled) {
            List<Object[]> rows = new ArrayList<>();
            try (URLClassLoader loader = new URLClassLoader(new URL[] {target.toUri().toURL()})) {
                for (int i = 0; i < blocks.size(); i++) {
                    loader.loadClass("Examples").getMethod("block" + i, List.class).invoke(null, rows);
                }
            }
            Report.due("whether there are examples", rows.size() > 30 ? 1 : 0, 1);
            for (Object[] row : rows) {
                Report.due("README: " + row[0], (Long) row[1], (Long) row[2]);
            }
        }
        Files.deleteIfExists(target.resolve("Examples.class"));
        Files.deleteIfExists(target);
    }

    private static void everyCallIsShown(List<String> blocks) {
        String all = String.join("", blocks);
        for (Method method : RootJudge.class.getDeclaredMethods()) {
            if (Modifier.isPublic(method.getModifiers())) {
                boolean shown = all.contains("judge." + method.getName() + "(");
                Report.due("whether " + method.getName() + " is shown", shown ? 1 : 0, 1);
            }
        }
    }

    private static void everyTestIsNamed(String readme) throws IOException {
        try (DirectoryStream<Path> tests = Files.newDirectoryStream(Path.of("src/test/java"), "*.java")) {
            for (Path test : tests) {
                String name = test.getFileName().toString().replace(".java", "");
                Report.due("whether " + name + " is named", readme.contains("`" + name + "`") ? 1 : 0, 1);
            }
        }
        for (Matcher named = NAMED.matcher(readme); named.find();) {
            Path file = Path.of("src/test/java", named.group(1) + ".java");
            Report.due("whether " + file + " is there", Files.exists(file) ? 1 : 0, 1);
        }
    }
}
