import java.lang.reflect.Method;
import java.lang.reflect.Modifier;
import java.net.URL;
import java.net.URLClassLoader;
import java.nio.file.Files;
import java.nio.file.Path;
import java.util.ArrayList;
import java.util.List;
import java.util.regex.Matcher;
import java.util.regex.Pattern;
import java.util.stream.Stream;
import javax.tools.ToolProvider;

/** README.md, held against what stands: its example's answers, the calls and the tests that it names. */
public final class BellYardsReadme extends Edge {
    private static final Pattern EXAMPLE = Pattern.compile("(?s)```java\n(.*?)```");
    private static final Pattern ANSWERED = Pattern.compile("(yards\\..*?);\\s+// (-?\\d+): .*");

    public static void main(String[] args) throws Exception {
        String page = Files.readString(Path.of("README.md"));
        theExample(page);
        theCalls(page);
        theTests(page);
        end();
    }

    // ---- the example, made a class that tells its answers in their order

    private static void theExample(String page) throws Exception {
        Matcher example = EXAMPLE.matcher(page);
        boolean there = example.find();
        due("README.md has an example", there ? 1 : 0, 1);
        if (!there) {
            return;
        }
        List<String> calls = new ArrayList<>();
        List<Long> wanted = new ArrayList<>();
        StringBuilder code = new StringBuilder();
        for (String line : example.group(1).split("\n")) {
            Matcher call = ANSWERED.matcher(line);
            if (call.matches()) {
                calls.add(call.group(1));
                wanted.add(Long.parseLong(call.group(2)));
                code.append("answers.add((long) ").append(call.group(1)).append(");\n");
            } else {
                due("README.md: behind // no answer of a call in " + line, line.contains("//") ? 1 : 0, 0);
                code.append(line).append('\n');
            }
        }
        List<Long> answers = answersOf(code.toString());
        due("README.md: answers", answers.size(), wanted.size());
        for (int k = 0; k < calls.size() && k < answers.size(); k++) {
            due("README.md: " + calls.get(k), answers.get(k), wanted.get(k));
        }
    }

    private static List<Long> answersOf(String code) throws Exception {
        Path folder = Files.createTempDirectory("readme");
        Path source = folder.resolve("ReadmeExample.java");
        Files.writeString(source, "public class ReadmeExample {\n"
            + "public static void run(java.util.List<Long> answers) {\n" + code + "}\n}\n");
        int compiled = ToolProvider.getSystemJavaCompiler().run(null, null, null,
            "-d", folder.toString(), "-cp", System.getProperty("java.class.path"), source.toString());
        due("README.md: its example compiles", compiled, 0);
        List<Long> answers = new ArrayList<>();
        if (compiled == 0) {
            try (URLClassLoader loader = new URLClassLoader(new URL[] {folder.toUri().toURL()})) {
                loader.loadClass("ReadmeExample").getMethod("run", List.class).invoke(null, answers);
            }
        }
        try (Stream<Path> files = Files.list(folder)) {
            for (Path file : files.toList()) {
                Files.delete(file);
            }
        }
        Files.delete(folder);
        return answers;
    }

    // ---- what it names

    private static void theCalls(String page) {
        for (Method m : BellYards.class.getDeclaredMethods()) {
            if (Modifier.isPublic(m.getModifiers())) {
                due("README.md names " + m.getName(), page.contains("`" + m.getName() + "`") ? 1 : 0, 1);
            }
        }
    }

    private static void theTests(String page) throws Exception {
        List<String> names = new ArrayList<>();
        try (Stream<Path> files = Files.list(Path.of("src/test/java"))) {
            files.forEach(file -> names.add(file.getFileName().toString().replace(".java", "")));
        }
        for (String name : names) {
            due("README.md names " + name, page.contains("| `" + name + "` |") ? 1 : 0, 1);
        }
        Matcher named = Pattern.compile("(?m)^\\| `(BellYards\\w+)` \\|").matcher(page);
        while (named.find()) {
            due("README.md: there is " + named.group(1), names.contains(named.group(1)) ? 1 : 0, 1);
        }
    }
}
