import java.io.IOException;
import java.io.StringWriter;
import java.io.UncheckedIOException;
import java.net.URL;
import java.net.URLClassLoader;
import java.nio.file.Files;
import java.nio.file.Path;
import java.util.Comparator;
import java.util.List;
import java.util.regex.Matcher;
import java.util.regex.Pattern;
import java.util.stream.Stream;
import javax.tools.JavaCompiler;
import javax.tools.ToolProvider;

/** README.md tells no wrong answer: its examples are compiled and run, its table is held against DOC.md. */
public final class ReadmeTest {
    private static final Pattern EXAMPLE = Pattern.compile("^```java\n(.*?)^```$", Pattern.MULTILINE | Pattern.DOTALL);
    private static final Pattern CALL = Pattern.compile("(x\\..*\\));\\s*// (throws )?(-?\\w+)(?::.*)?");
    private static final Pattern ROW = Pattern.compile("^\\| `(\\w+)\\((.*?)\\)` \\| .* \\| ?(.*?) ?\\|$", Pattern.MULTILINE);
    private static final Pattern METHOD = Pattern.compile("^    public \\w+ (\\w+)\\((.*?)\\).*;$", Pattern.MULTILINE);

    public static void main(String[] args) throws Exception {
        String readme = Files.readString(Path.of("README.md"));
        examples(readme);
        table(readme, Files.readString(Path.of("../shared/DOC.md")));
        Check.end();
    }

    private static void examples(String readme) throws Exception {
        Path out = Files.createTempDirectory("readme");
        try {
            StringBuilder code = new StringBuilder("public final class ReadmeExamples {\n");
            Matcher m = EXAMPLE.matcher(readme);
            int count = 0;
            for (; m.find(); count++) {
                code.append("public static void example").append(count).append("() {\n");
                m.group(1).lines().forEach(line -> code.append(asTest(line)).append('\n'));
                code.append("}\n");
            }
            Check.due("the number of examples", count, 4);
            run(compiled(out, code.append("}\n").toString()), count);
        } finally {
            remove(out);
        }
    }

    /** Each call at a line's beginning has to tell its answer. */
    private static String asTest(String line) {
        if (!line.startsWith("x.")) {
            return line;
        }
        Matcher m = CALL.matcher(line);
        if (!m.matches()) {
            Check.fail("README.md tells no answer: " + line);
            return "";
        }
        String call = m.group(1);
        String told = "\"README.md: " + call.replace("\"", "\\\"") + "\", ";
        return m.group(2) == null
            ? "ReadmeTest.due(" + told + call + ", " + m.group(3) + ");"
            : "ReadmeTest.threw(" + told + "() -> " + call + ", " + m.group(3) + ".class);";
    }

    /** The examples' class is loaded by a loader of its own, so it sees what is public alone. */
    public static void due(String what, long got, long want) {
        Check.due(what, got, want);
    }

    public static void threw(String what, Runnable call, Class<?> want) {
        Check.threw(what, Check.thrown(call::run), want);
    }

    private static Path compiled(Path out, String code) throws IOException {
        Path source = out.resolve("ReadmeExamples.java");
        Files.writeString(source, code);
        JavaCompiler javac = ToolProvider.getSystemJavaCompiler();
        StringWriter words = new StringWriter();
        List<String> options = List.of("-d", out.toString(), "-cp", System.getProperty("java.class.path"));
        try (var files = javac.getStandardFileManager(null, null, null)) {
            if (!javac.getTask(words, files, null, options, null, files.getJavaFileObjects(source)).call()) {
                Check.fail("the examples of README.md do not compile:\n" + words);
            }
        }
        return out;
    }

    private static void run(Path out, int count) throws Exception {
        try (URLClassLoader loader = new URLClassLoader(new URL[] {out.toUri().toURL()})) {
            Class<?> examples = loader.loadClass("ReadmeExamples");
            for (int k = 0; k < count; k++) {
                examples.getMethod("example" + k).invoke(null);
            }
        }
    }

    private static void remove(Path folder) throws IOException {
        try (Stream<Path> all = Files.walk(folder)) {
            all.sorted(Comparator.reverseOrder()).forEach(path -> {
                try {
                    Files.delete(path);
                } catch (IOException e) {
                    throw new UncheckedIOException(e);
                }
            });
        }
    }

    /** The table has the calls of the face in their order, with their parameters, and says which are undoable. */
    private static void table(String readme, String document) {
        Matcher row = ROW.matcher(readme);
        Matcher method = METHOD.matcher(document);
        int count = 0;
        while (method.find()) {
            count++;
            String name = method.group(1);
            if (!row.find()) {
                Check.fail("the table of README.md has no row for " + name);
                return;
            }
            String parameters = method.group(2).replaceAll("\\w+ (\\w+)", "$1");
            Check.due("the row of " + name, row.group(1).equals(name), true);
            Check.due("the parameters of " + name, row.group(2).equals(parameters), true);
            Check.due("whether " + name + " is undoable", row.group(3).startsWith("yes"), isUndoable(name, document));
        }
        Check.due("calls of the table", count, 37);
        Check.due("rows behind the last call", row.find(), false);
    }

    private static boolean isUndoable(String name, String document) {
        int from = document.indexOf(": " + name + "\n");
        int to = document.indexOf("\n## ", from);
        return from >= 0 && document.substring(from, to).contains("Undoable");
    }
}
