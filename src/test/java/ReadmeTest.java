import java.net.URL;
import java.net.URLClassLoader;
import java.nio.file.Files;
import java.nio.file.Path;
import java.util.ArrayList;
import java.util.List;
import java.util.regex.Matcher;
import java.util.regex.Pattern;
import javax.tools.ToolProvider;

/** README.md: its calls answer what stands behind them, and it has every call of the document's face. */
public final class ReadmeTest {
    private static final Due due = new Due();
    private static final Pattern BLOCK = Pattern.compile("(?s)```java\n(.*?)```");
    private static final Pattern CALL = Pattern.compile("(x\\.\\w+\\(.*\\)); +// (-?\\d+)\\b.*");
    private static final Pattern FACE = Pattern.compile("    public ((?:int|long) \\w+\\(.*\\));");

    public static void main(String[] args) throws Exception {
        String readme = Files.readString(Path.of("README.md"));
        namesEveryCall(readme);
        answersAreDue(readme);
        due.end();
    }

    /** The document's own lines, each as the first cell of a row. */
    private static void namesEveryCall(String readme) throws Exception {
        Matcher face = FACE.matcher(Files.readString(Path.of("../shared/DOC.md")));
        int found = 0;
        while (face.find()) {
            found++;
            due.is("README.md has " + face.group(1), readme.contains("\n| `" + face.group(1) + "` | ") ? 1 : 0, 1);
        }
        due.is("calls of the face", found, 32);
        due.is("README.md has SonsPurse()", readme.contains("`SonsPurse()`") ? 1 : 0, 1);
    }

    /** All blocks go into one program, as they stand, but that each call with a number behind it keeps its answer. */
    private static void answersAreDue(String readme) throws Exception {
        StringBuilder program = new StringBuilder("public class ReadmeCalls { public static void run(java.util.List<Long> got) {\n");
        List<String> calls = new ArrayList<>();
        List<Long> wants = new ArrayList<>();
        Matcher block = BLOCK.matcher(readme);
        while (block.find()) {
            for (String line : block.group(1).split("\n")) {
                Matcher call = CALL.matcher(line);
                if (call.matches()) {
                    calls.add(call.group(1));
                    wants.add(Long.valueOf(call.group(2)));
                    program.append("got.add((long) ").append(call.group(1)).append(");\n");
                } else {
                    program.append(line).append('\n');
                }
            }
        }
        List<Long> got = answers(program.append("}}\n").toString());
        due.is("README.md has calls of its own", calls.size() > 50 ? 1 : 0, 1);
        due.is("README.md, how many answers", got.size(), calls.size());
        for (int k = 0; k < got.size(); k++) due.is("README.md, call " + k + ", " + calls.get(k), got.get(k), wants.get(k));
    }

    private static List<Long> answers(String program) throws Exception {
        List<Long> got = new ArrayList<>();
        Path made = Files.createTempDirectory("readme");
        Path source = made.resolve("ReadmeCalls.java");
        Files.writeString(source, program);
        String path = System.getProperty("java.class.path");
        int failed = ToolProvider.getSystemJavaCompiler().run(null, null, null, "-d", made.toString(), "-cp", path, source.toString());
        due.is("README.md, what its compiler answers", failed, 0);
        if (failed == 0) {
            try (URLClassLoader loader = new URLClassLoader(new URL[] {made.toUri().toURL()})) {
                loader.loadClass("ReadmeCalls").getMethod("run", List.class).invoke(null, got);
            }
            Files.delete(made.resolve("ReadmeCalls.class"));
        }
        Files.delete(source);
        Files.delete(made);
        return got;
    }
}
