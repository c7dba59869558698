import java.io.IOException;
import java.lang.reflect.InvocationTargetException;
import java.net.URL;
import java.net.URLClassLoader;
import java.nio.file.Files;
import java.nio.file.Path;
import java.util.ArrayList;
import java.util.List;
import java.util.Set;
import java.util.TreeSet;
import java.util.regex.Matcher;
import java.util.regex.Pattern;
import java.util.stream.Collectors;
import java.util.stream.Stream;
import javax.tools.ToolProvider;

/** What README.md shows compiles, answers as it says, and tells of each test that there is. */
final class ReadmeTest {
    private static final Bench t = new Bench();
    /** A call and, behind it, the answer that README.md tells for it. */
    private static final Pattern TOLD =
            Pattern.compile("\\s*(x\\.\\w+\\(.*\\));\\s*// (-?\\d+|true|false|NoSuchElementException)\\b.*");
    private static final Pattern LISTED = Pattern.compile("\\| `(\\w+)` \\|.*");

    private ReadmeTest() {
    }

    public static void main(String[] args) throws IOException, ReflectiveOperationException {
        List<String> lines = Files.readAllLines(Path.of("README.md"));
        shownCallsAnswerAsTold(blocks(lines, "java"));
        shownCommandsCanBeRun(blocks(lines, "sh"));
        eachTestIsListed(lines);
        t.close("ReadmeTest");
    }

    private static List<List<String>> blocks(List<String> lines, String language) {
        List<List<String>> blocks = new ArrayList<>();
        List<String> block = null;
        for (String line : lines) {
            if (line.equals("```" + language)) {
                block = new ArrayList<>();
                blocks.add(block);
            } else if (line.equals("```")) {
                block = null;
            } else if (block != null) {
                block.add(line);
            }
        }
        return blocks;
    }

    private static void shownCallsAnswerAsTold(List<List<String>> blocks)
            throws IOException, ReflectiveOperationException {
        t.due("blocks of Java in README.md", blocks.isEmpty() ? 0 : 1, 1);
        StringBuilder source = new StringBuilder("public final class Shown {\n");
        int told = 0;
        for (int b = 0; b < blocks.size(); b++) {
            source.append("    public static void show").append(b).append("(java.util.List<String> got) {\n");
            for (String line : blocks.get(b)) {
                Matcher answer = TOLD.matcher(line);
                if (answer.matches()) {
                    told++;
                    source.append("        try { got.add(String.valueOf(").append(answer.group(1))
                            .append(")); } catch (java.util.NoSuchElementException e)")
                            .append(" { got.add(\"NoSuchElementException\"); }\n");
                } else {
                    source.append(line).append('\n');
                }
            }
            source.append("    }\n");
        }
        source.append("}\n");
        t.due("answers that README.md tells", told > 0 ? 1 : 0, 1);
        Class<?> shown = compiled(source.toString());
        for (int b = 0; shown != null && b < blocks.size(); b++) {
            compare(blocks.get(b), answers(shown, b));
        }
    }

    private static Class<?> compiled(String source) throws IOException, ReflectiveOperationException {
        Path folder = Files.createTempDirectory("readme");
        Path file = Files.writeString(folder.resolve("Shown.java"), source);
        Path made = folder.resolve("Shown.class");
        try {
            int failed = ToolProvider.getSystemJavaCompiler().run(null, null, null, "-encoding", "UTF-8",
                    "-cp", System.getProperty("java.class.path"), "-d", folder.toString(), file.toString());
            t.due("compiling what README.md shows", failed, 0);
            if (failed != 0) {
                return null;
            }
            try (URLClassLoader loader = new URLClassLoader(new URL[] {folder.toUri().toURL()})) {
                return loader.loadClass("Shown");
            }
        } finally {
            Files.deleteIfExists(made);
            Files.deleteIfExists(file);
            Files.deleteIfExists(folder);
        }
    }

    private static List<String> answers(Class<?> shown, int block) throws ReflectiveOperationException {
        List<String> got = new ArrayList<>();
        try {
            shown.getMethod("show" + block, List.class).invoke(null, got);
        } catch (InvocationTargetException e) {
            System.out.println("README.md was stopped by " + e.getCause());
        }
        return got;
    }

    private static void compare(List<String> block, List<String> got) {
        int at = 0;
        for (String line : block) {
            Matcher answer = TOLD.matcher(line);
            if (answer.matches()) {
                String was = at < got.size() ? got.get(at) : "nothing";
                t.yes("README.md: " + line.strip() + " (answered " + was + ")", was.equals(answer.group(2)));
                at++;
            }
        }
    }

    private static void shownCommandsCanBeRun(List<List<String>> blocks) {
        t.due("blocks of commands in README.md", blocks.isEmpty() ? 0 : 1, 1);
        for (List<String> block : blocks) {
            for (String command : block) {
                t.yes("README.md: " + command, Files.isExecutable(Path.of(command.split(" ")[0])));
            }
        }
    }

    private static void eachTestIsListed(List<String> lines) throws IOException {
        Set<String> listed = new TreeSet<>();
        for (String line : lines) {
            Matcher test = LISTED.matcher(line);
            if (test.matches()) {
                listed.add(test.group(1));
            }
        }
        try (Stream<Path> files = Files.list(Path.of("src/test/java"))) {
            Set<String> tests = files.map(file -> file.getFileName().toString())
                    .filter(name -> name.endsWith("Test.java"))
                    .map(name -> name.replace(".java", ""))
                    .collect(Collectors.toCollection(TreeSet::new));
            t.yes("README.md lists " + listed + ", there are " + tests, listed.equals(tests));
        }
    }
}
