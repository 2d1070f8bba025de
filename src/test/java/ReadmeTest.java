import java.io.IOException;
import java.lang.reflect.Method;
import java.lang.reflect.Modifier;
import java.net.URL;
import java.net.URLClassLoader;
import java.nio.file.Files;
import java.nio.file.Path;
import java.util.ArrayList;
import java.util.List;
import java.util.regex.Matcher;
import java.util.regex.Pattern;
import javax.tools.JavaCompiler;
import javax.tools.ToolProvider;

/** The calls that README.md shows, with the answers that it tells: its code is compiled as it stands there, and run. */
public final class ReadmeTest {
    private static final Path README = Path.of("README.md");
    private static final String MADE = "QuarrelKeys x = new QuarrelKeys();";
    private static final Pattern ANSWERED = Pattern.compile("(\\S.*\\));\\s+// (NONE|true|false|-?\\d+)(:.*)?");

    private final StringBuilder members = new StringBuilder();
    private final StringBuilder calls = new StringBuilder();
    private int shown;

    private ReadmeTest() {
    }

    public static void main(String[] args) throws Exception {
        List<String> lines = Files.readAllLines(README);
        everyCallIsShown(String.join("\n", lines));
        ReadmeTest test = new ReadmeTest();
        test.readBlocks(lines);
        Check.due("README.md shows at least fifty calls with answers", test.shown >= 50, true);
        test.run();
        Check.end("ReadmeTest");
    }

    private static void everyCallIsShown(String text) {
        for (Method m : QuarrelKeys.class.getDeclaredMethods()) {
            if (Modifier.isPublic(m.getModifiers())) {
                Check.due("README.md shows x." + m.getName(), text.contains("x." + m.getName() + "("), true);
            }
        }
    }

    /** A block with a function of its own is taken as it is, any other one line by line. */
    private void readBlocks(List<String> lines) {
        for (int i = 0; i < lines.size(); i++) {
            if (lines.get(i).equals("```java")) {
                int end = i + 1;
                while (end < lines.size() && !lines.get(end).equals("```")) {
                    end++;
                }
                List<String> block = lines.subList(i + 1, end);
                if (block.stream().anyMatch(line -> line.startsWith("static "))) {
                    members.append(String.join("\n", block)).append('\n');
                } else {
                    addCalls(block, i + 2);
                }
                i = end;
            }
        }
    }

    private void addCalls(List<String> block, int firstLine) {
        for (int i = 0; i < block.size(); i++) {
            String line = block.get(i).strip();
            Matcher m = ANSWERED.matcher(line);
            if (m.matches()) {
                shown++;
                String label = "README.md, line " + (firstLine + i) + ": " + m.group(1);
                String due = m.group(2).equals("NONE") ? "QuarrelKeys.NONE" : m.group(2);
                calls.append("all.add(new String[] {\"").append(label.replace("\"", "\\\"")).append("\", ");
                calls.append("\"\" + ").append(m.group(1)).append(", \"\" + ").append(due).append("});\n");
            } else {
                Check.due("README.md, line " + (firstLine + i) + " has an answer: " + line,
                    line.isEmpty() || line.equals(MADE), true);
                calls.append(line).append('\n');
            }
        }
    }

    private void run() throws Exception {
        Path folder = Files.createTempDirectory("readme");
        try {
            Path file = folder.resolve("Readme.java");
            Files.writeString(file, "public final class Readme {\n" + members + "public static void makeCalls("
                + "java.util.List<String[]> all) {\n" + calls + "}\n}\n");
            URL classes = ReadmeTest.class.getProtectionDomain().getCodeSource().getLocation();
            JavaCompiler javac = ToolProvider.getSystemJavaCompiler();
            int failed = javac.run(null, null, null, "-cp", Path.of(classes.toURI()).toString(), "-d", folder.toString(),
                file.toString());
            Check.due("javac of what README.md shows", failed, 0);
            if (failed == 0) {
                makeCalls(folder);
            }
        } finally {
            remove(folder);
        }
    }

    private void makeCalls(Path folder) throws Exception {
        List<String[]> all = new ArrayList<>();
        try (URLClassLoader loader = new URLClassLoader(new URL[] {folder.toUri().toURL()})) {
            loader.loadClass("Readme").getMethod("makeCalls", List.class).invoke(null, all);
        }
        Check.due("calls of README.md that were made", all.size(), shown);
        for (String[] call : all) {
            Check.due(call[0], call[1], call[2]);
        }
    }

    private static void remove(Path folder) throws IOException {
        try (var files = Files.list(folder)) {
            for (Path file : files.toList()) {
                Files.delete(file);
            }
        }
        Files.delete(folder);
    }
}
