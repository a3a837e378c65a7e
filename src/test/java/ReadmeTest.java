import java.lang.reflect.Method;
import java.lang.reflect.Modifier;
import java.net.URL;
import java.net.URLClassLoader;
import java.nio.file.Files;
import java.nio.file.Path;
import java.util.ArrayList;
import java.util.List;
import java.util.regex.Matcher;
import java.util.regex.Pattern;
import javax.tools.ToolProvider;

/** README.md names every call, and its examples, taken as one program, answer what they say behind each call. */
public final class ReadmeTest {
    private static final Check CHECK = new Check();
    private static final Pattern BLOCK = Pattern.compile("```java\n(.*?)```", Pattern.DOTALL);
    /** A call that stands on a line of its own, and its answer: a number, or one of the constants. */
    private static final Pattern CALL = Pattern.compile("(x\\.\\w+\\(.*\\)); *(?:// (-?\\d+|[A-Z]+)\\b.*)?");

    public static void main(String[] args) throws Exception {
        String readme = Files.readString(Path.of("README.md"));
        namesEveryCall(readme);
        StringBuilder examples = new StringBuilder();
        for (Matcher block = BLOCK.matcher(readme); block.find();) {
            examples.append(block.group(1));
        }
        examplesAreSo(examples.toString());
        CHECK.due("README.md tells of .ci/run", readme.contains(".ci/run") ? 1 : 0, 1);
        namesEveryTest(readme);
        CHECK.end();
    }

    private static void namesEveryCall(String readme) {
        String words = BLOCK.matcher(readme).replaceAll("");
        for (Method method : BookPairs.class.getDeclaredMethods()) {
            if (Modifier.isPublic(method.getModifiers())) {
                String name = "`" + method.getName() + "(";
                CHECK.due("README.md names " + name, words.contains(name) ? 1 : 0, 1);
            }
        }
    }

    private static void namesEveryTest(String readme) throws Exception {
        try (var files = Files.list(Path.of("src/test/java"))) {
            for (Path file : files.sorted().toList()) {
                String name = file.getFileName().toString().replace(".java", "");
                if (name.endsWith("Test")) {
                    CHECK.due("README.md names " + name, readme.contains("| " + name + " |") ? 1 : 0, 1);
                }
            }
        }
    }

    private static void examplesAreSo(String examples) throws Exception {
        List<String> calls = new ArrayList<>();
        StringBuilder program = new StringBuilder("public final class ReadmeExamples {\n"
            + "public static java.util.List<long[]> answers() {\n"
            + "java.util.List<long[]> answers = new java.util.ArrayList<>();\n");
        for (String line : examples.split("\n")) {
            Matcher call = CALL.matcher(line);
            if (!call.matches()) {
                program.append(line).append('\n');
            } else if (call.group(2) == null) {
                CHECK.due("README.md tells what is answered by " + line, 0, 1);
            } else {
                calls.add(call.group(1));
                String told = call.group(2);
                String want = Character.isLetter(told.charAt(0)) ? "BookPairs." + told : told;
                program.append("answers.add(new long[] {" + call.group(1) + ", " + want + "});\n");
            }
        }
        program.append("return answers;\n}\n}\n");
        List<?> answers = run(program.toString());
        for (int k = 0; k < answers.size(); k++) {
            long[] answer = (long[]) answers.get(k);
            CHECK.due("README.md, " + calls.get(k), answer[0], answer[1]);
        }
    }

    private static List<?> run(String program) throws Exception {
        Path folder = Files.createTempDirectory("readme");
        Path source = Files.writeString(folder.resolve("ReadmeExamples.java"), program);
        Path made = folder.resolve("ReadmeExamples.class");
        try {
            int failed = ToolProvider.getSystemJavaCompiler().run(null, null, null, "-cp",
                System.getProperty("java.class.path"), "-d", folder.toString(), source.toString());
            CHECK.due("the examples of README.md compile", failed, 0);
            if (failed != 0) {
                return List.of();
            }
            try (URLClassLoader loader = new URLClassLoader(new URL[] {folder.toUri().toURL()})) {
                return (List<?>) loader.loadClass("ReadmeExamples").getMethod("answers").invoke(null);
            }
        } finally {
            Files.deleteIfExists(made);
            Files.deleteIfExists(source);
            Files.deleteIfExists(folder);
        }
    }
}
